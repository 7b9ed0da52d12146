/-! LETTERS: a statement, letter by letter -/
theorem gr1_n {n : Nat} {l : Nat → Nat} : ∀ f c p b, p ≤ n → (gr1 n l f c p b).2.2 ≤ n := by
  intro f
  induction f with
  | zero => intro c p b h; exact h
  | succ f ih =>
    intro c p b h
    unfold gr1
    split
    · rename_i e; exact ih _ _ _ (isG_l e).1
    · exact h
theorem a_rdM {n p : Nat} {l : Nat → Nat} (hp : p ≤ n) : ((rdM n l p).2.2.2.2 = true → (rdM n l p).2.2.2.1 ≤ n ∧ ∃ q, aG l p (1, 0, 6, 0, 0) (rdM n l p).2.2.2.1 q ∧ aX n l (rdM n l p).2.2.2.1 q) ∧ ((rdM n l p).2.2.2.2 = false → aG l p (1, 0, 6, 0, 0) (rdM n l p).2.2.2.1 (1, (rdM n l p).1 - 1, (rdM n l p).2.1, (rdM n l p).2.1, 0) ∧ 2 ≤ (rdM n l p).1 ∧ ((rdM n l p).1 < 5 → hr n l (rdM n l p).2.2.2.1 ≠ some 47) ∧ (rdM n l p).2.2.2.1 ≤ n) := by
  obtain ⟨g1, g2⟩ := a_gr1 (n := n) (l := l) (rb := 0) (wd := 6) (pn := 0) 6 0 p 0 rfl
  have gn := gr1_n (l := l) 6 0 p 0 hp
  have g6 := gr1_c n l 6 0 p 0
  unfold rdM
  by_cases e : (gr1 n l 6 0 p 0).1 < 2 ∨ hr n l (gr1 n l 6 0 p 0).2.2 ≠ some 47
  · rw [if_pos e]
    refine ⟨fun _ => ⟨gn, _, g1, fun hpn => ?_, fun _ => by show (1 : Nat) ≠ 0; decide⟩, fun z => by cases z⟩
    have hpn : (gr1 n l 6 0 p 0).2.2 < n := hpn
    show (au (1, 0, 6, (gr1 n l 6 0 p 0).1, 0) (l (gr1 n l 6 0 p 0).2.2)).2 = false
    unfold au auR
    simp only [Nat.reduceEqDiff, if_false, if_true, Nat.one_ne_zero]
    by_cases eg : isG (hr n l (gr1 n l 6 0 p 0).2.2) = true
    · have c6 : (gr1 n l 6 0 p 0).1 = 6 := by
        rcases Nat.lt_or_ge (gr1 n l 6 0 p 0).1 6 with z | z
        · rw [g2 z] at eg; cases eg
        · omega
      rw [if_pos (isG_l eg).2, c6]
      rfl
    · have g := isG_n (bnt eg) hpn
      rw [if_neg (by rintro (z | z); exact g.1 z; exact g.2 z)]
      by_cases e7 : l (gr1 n l 6 0 p 0).2.2 = 47
      · have c2 : (gr1 n l 6 0 p 0).1 < 2 := e.resolve_right (fun z => z (by rw [hr_l hpn, e7]))
        rw [if_pos e7, decide_eq_false (show ¬ 2 ≤ (gr1 n l 6 0 p 0).1 by omega)]
        rfl
      · rw [if_neg e7, if_neg (fun z => by have := z.1; omega)]
  · rw [if_neg e]
    have c2 : 2 ≤ (gr1 n l 6 0 p 0).1 := Nat.le_of_not_lt (fun z => e (Or.inl z))
    have h47 : hr n l (gr1 n l 6 0 p 0).2.2 = some 47 := Classical.byContradiction (fun z => e (Or.inr z))
    obtain ⟨a1, a2⟩ := a_gr3 (n := n) (l := l) (wd := (gr1 n l 6 0 p 0).1) (pn := 0) c2 4 (gr1 n l 6 0 p 0).1 (gr1 n l 6 0 p 0).2.2 (gr1 n l 6 0 p 0).2.1 1 6 gn (by omega) (by omega) (Or.inl ⟨rfl, h47⟩)
    refine ⟨fun z => ?_, fun z => ?_⟩
    · obtain ⟨b0, q, b1, b2⟩ := a2 z
      exact ⟨b0, q, aG_t g1 b1, b2⟩
    · obtain ⟨b1, b2⟩ := a1 z
      exact ⟨aG_t g1 b1, b2⟩
theorem a_d {n p ph nx : Nat} {l : Nat → Nat} {r : Nat × Nat × Nat × Nat} (h0 : ph ≠ 0) (ha : ∀ c, au (ph, r) c = auD (ph, r) c nx) : (isD (hr n l p) = true → aG l p (ph, r) (p + 1) (nx, r) ∧ p < n) ∧ (isD (hr n l p) = false → aX n l p (ph, r)) := by
  constructor
  · intro h
    have g := isD_l h
    refine ⟨aG_e ?_, g.2.2.2⟩
    rw [ha]
    unfold auD
    rw [g.1] at h
    rw [if_pos h]
  · intro h
    refine ⟨fun hpn => ?_, fun _ => h0⟩
    rw [ha]
    unfold auD
    rw [hr_l hpn] at h
    rw [h]
    rfl
theorem rdD_g {n p : Nat} {l : Nat → Nat} (h : isD (hr n l p) = true) : rdD n l p false = (l p - 48, p + 1, false) := by
  unfold rdD
  rw [if_neg (by rintro (z | z); cases z; rw [h] at z; cases z)]
theorem rdD_b {n p : Nat} {l : Nat → Nat} (h : isD (hr n l p) = false) (b : Bool) : rdD n l p b = (0, p, true) := by
  unfold rdD
  rw [if_pos (Or.inr h)]
theorem rdD_t {n p : Nat} {l : Nat → Nat} : rdD n l p true = (0, p, true) := by
  unfold rdD
  rw [if_pos (Or.inl rfl)]
theorem a_dg {n p : Nat} {l : Nat → Nat} {r : Nat × Nat × Nat × Nat} (hp : p ≤ n) : ((dg4 n l p).2.2 = true → (dg4 n l p).2.1 ≤ n ∧ ∃ q, aG l p (2, r) (dg4 n l p).2.1 q ∧ aX n l (dg4 n l p).2.1 q) ∧ ((dg4 n l p).2.2 = false → (dg4 n l p).2.1 ≤ n ∧ ∃ ph, aG l p (2, r) (dg4 n l p).2.1 (ph, r) ∧ ((ph = 5 ∧ isD (hr n l (dg4 n l p).2.1) = false) ∨ ph = 6)) := by
  obtain ⟨d1, d1'⟩ := a_d (n := n) (p := p) (l := l) (ph := 2) (nx := 3) (r := r) (by decide) (fun c => rfl)
  obtain ⟨d2, d2'⟩ := a_d (n := n) (p := p + 1) (l := l) (ph := 3) (nx := 4) (r := r) (by decide) (fun c => rfl)
  obtain ⟨d3, d3'⟩ := a_d (n := n) (p := p + 2) (l := l) (ph := 4) (nx := 5) (r := r) (by decide) (fun c => rfl)
  cases e1 : isD (hr n l p) with
  | false =>
    have h1 : dg1 n l p = (0, p, true) := rdD_b e1 _
    have h2 : dg2 n l p = (0, p, true) := by unfold dg2; rw [h1]; exact rdD_t
    have h3 : dg3 n l p = (0, p, true) := by unfold dg3; rw [h2]; exact rdD_t
    have h4 : dg4 n l p = (0, p, true) := by unfold dg4; rw [h3, if_neg (fun z => by cases z.1)]
    rw [h4]
    exact ⟨fun _ => ⟨hp, _, aG_r _ _ _, d1' e1⟩, fun z => by cases z⟩
  | true =>
    obtain ⟨s1, l1⟩ := d1 e1
    have h1 : dg1 n l p = (l p - 48, p + 1, false) := rdD_g e1
    cases e2 : isD (hr n l (p + 1)) with
    | false =>
      have h2 : dg2 n l p = (0, p + 1, true) := by unfold dg2; rw [h1]; exact rdD_b e2 _
      have h3 : dg3 n l p = (0, p + 1, true) := by unfold dg3; rw [h2]; exact rdD_t
      have h4 : dg4 n l p = (0, p + 1, true) := by unfold dg4; rw [h3, if_neg (fun z => by cases z.1)]
      rw [h4]
      exact ⟨fun _ => ⟨by show p + 1 ≤ n; omega, _, s1, d2' e2⟩, fun z => by cases z⟩
    | true =>
      obtain ⟨s2, l2⟩ := d2 e2
      have h2 : dg2 n l p = (l (p + 1) - 48, p + 2, false) := by unfold dg2; rw [h1]; exact rdD_g e2
      cases e3 : isD (hr n l (p + 2)) with
      | false =>
        have h3 : dg3 n l p = (0, p + 2, true) := by unfold dg3; rw [h2]; exact rdD_b e3 _
        have h4 : dg4 n l p = (0, p + 2, true) := by unfold dg4; rw [h3, if_neg (fun z => by cases z.1)]
        rw [h4]
        exact ⟨fun _ => ⟨by show p + 2 ≤ n; omega, _, aG_t s1 s2, d3' e3⟩, fun z => by cases z⟩
      | true =>
        obtain ⟨s3, l3⟩ := d3 e3
        have h3 : dg3 n l p = (l (p + 2) - 48, p + 3, false) := by unfold dg3; rw [h2]; exact rdD_g e3
        cases e4 : isD (hr n l (p + 3)) with
        | false =>
          have h4 : dg4 n l p = (l (p + 2) - 48, p + 3, false) := by unfold dg4; rw [h3, if_neg (fun z => by rw [e4] at z; cases z.2)]
          rw [h4]
          exact ⟨(fun z => by cases z), fun _ => ⟨by show p + 3 ≤ n; omega, 5, aG_t s1 (aG_t s2 s3), Or.inl ⟨rfl, e4⟩⟩⟩
        | true =>
          have g4 := isD_l e4
          have s4 : aG l (p + 3) (5, r) (p + 4) (6, r) := by
            refine aG_e ?_
            have e4' := e4
            rw [g4.1] at e4'
            unfold au auD
            simp only [Nat.reduceEqDiff, if_false, if_true, Nat.one_ne_zero]
            rw [if_pos e4', if_pos e4']
          have h4 : (dg4 n l p).2 = (p + 4, false) := by unfold dg4; rw [h3, if_pos ⟨rfl, e4⟩, rdD_g e4]
          rw [h4]
          exact ⟨(fun z => by cases z), fun _ => ⟨by show p + 4 ≤ n; omega, 6, aG_t s1 (aG_t s2 (aG_t s3 s4)), Or.inr rfl⟩⟩
theorem st_nd {c s : Nat} (h : stL c = some s) : isD (some c) = false := by
  unfold stL at h
  unfold isD
  repeat' split at h
  all_goals (rename_i e; first | (subst e; rfl) | cases h)
theorem stO_l {n p s : Nat} {l : Nat → Nat} (h : stO (hr n l p) = some s) : p < n ∧ stL (l p) = some s := by
  unfold hr at h
  split at h
  · rename_i e; exact ⟨e, h⟩
  · cases h
theorem a_spF {n : Nat} {l : Nat → Nat} {rb wd co : Nat} : ∀ f j p ph, p ≤ n → j + f = 6 → (ph = 5 ∧ isD (hr n l p) = false) ∨ ph = 6 → (spF n l f j p).2 ≤ n ∧ ∃ ph2, aG l p (ph, rb, wd, co, j) (spF n l f j p).2 (ph2, rb, wd, co, (spF n l f j p).1) ∧ ((ph2 = 5 ∧ isD (hr n l (spF n l f j p).2) = false) ∨ ph2 = 6) ∧ ((spF n l f j p).1 < 6 → stO (hr n l (spF n l f j p).2) = none) := by
  intro f
  induction f with
  | zero => intro j p ph hp hj h; exact ⟨hp, ph, aG_r _ _ _, h, fun z => by have : j < 6 := z; omega⟩
  | succ f ih =>
    intro j p ph hp hj h
    unfold spF
    cases e : stO (hr n l p) with
    | none => exact ⟨hp, ph, aG_r _ _ _, h, fun _ => e⟩
    | some s =>
      obtain ⟨g1, g2⟩ := stO_l e
      obtain ⟨r0, ph2, r1, r2⟩ := ih (j + 1) (p + 1) 6 g1 (by omega) (Or.inr rfl)
      have st : au (ph, rb, wd, co, j) (l p) = ((6, rb, wd, co, j + 1), true) := by
        have nd := st_nd g2
        have ns : ¬ stL (l p) = none := by rw [g2]; simp
        rcases h with ⟨rfl, -⟩ | rfl
        · unfold au auP
          simp only [Nat.reduceEqDiff, if_false, if_true, Nat.one_ne_zero]
          rw [nd, if_neg (by decide), if_neg ns, decide_eq_true (by omega)]
        · unfold au auP
          simp only [Nat.reduceEqDiff, if_false, if_true, Nat.one_ne_zero]
          rw [if_neg ns, decide_eq_true (by omega)]
      exact ⟨r0, ph2, aG_t (aG_e st) r1, r2⟩
theorem a_pend {n p ph rb wd co j : Nat} {l : Nat → Nat} (hj : j ≤ 6) (h : (ph = 5 ∧ isD (hr n l p) = false) ∨ ph = 6) (h6 : j < 6 → stO (hr n l p) = none) : (hr n l p = some 59 → ∃ q, aG l p (ph, rb, wd, co, j) (p + 1) q ∧ q.1 = 0) ∧ (hr n l p ≠ some 59 → aX n l p (ph, rb, wd, co, j)) := by
  have pe : ∀ c, hr n l p = some c → au (ph, rb, wd, co, j) c = auP (ph, rb, wd, co, j) c := fun c hc => by
    rcases h with ⟨rfl, nd⟩ | rfl
    · unfold au
      simp only [Nat.reduceEqDiff, if_false, if_true, Nat.one_ne_zero]
      rw [hc] at nd
      rw [nd, if_neg (by decide)]
    · rfl
  constructor
  · intro e
    refine ⟨(0, rb, wd, co, j), aG_e ?_, rfl⟩
    rw [(hr_s e).1, pe _ e]
    rfl
  · intro e
    refine ⟨fun hpn => ?_, fun _ => ?_⟩
    · rw [pe _ (hr_l hpn)]
      rw [hr_l hpn] at e h6
      unfold auP auC
      by_cases z : stL (l p) = none
      · rw [if_pos z]; exact decide_eq_false (fun y => e (by rw [y]))
      · rw [if_neg z]
        have : ¬ j < 6 := fun y => z (h6 y)
        exact decide_eq_false (by show ¬ j + 1 ≤ 6; omega)
    · show ph ≠ 0
      rcases h with ⟨rfl, -⟩ | rfl <;> decide
theorem clz_e {n p : Nat} {l : Nat → Nat} {b : Bool} : clz n l p b = if b = true ∨ hr n l p ≠ some 59 then (p, true) else (p + 1, false) := rfl
/-- one statement -/
theorem a_stm {n p : Nat} {l : Nat → Nat} {q : AS} (hq : q.1 = 0) (hp : p < n) : (rdS n l p).1 ≤ n ∧ ((rdS n l p).2 = false → ∃ q2, aG l p q (rdS n l p).1 q2 ∧ q2.1 = 0) ∧ ((rdS n l p).2 = true → ∃ q2, aG l p q (rdS n l p).1 q2 ∧ aX n l (rdS n l p).1 q2) := by
  have join : ∀ (p1 : Nat) (q1 : AS), rd1 n l p = (p1, false) → p1 ≤ n → aG l p q p1 q1 → ((hr n l p1 = some 59 → ∃ q, aG l p1 q1 (p1 + 1) q ∧ q.1 = 0) ∧ (hr n l p1 ≠ some 59 → aX n l p1 q1)) → (rdS n l p).1 ≤ n ∧ ((rdS n l p).2 = false → ∃ q2, aG l p q (rdS n l p).1 q2 ∧ q2.1 = 0) ∧ ((rdS n l p).2 = true → ∃ q2, aG l p q (rdS n l p).1 q2 ∧ aX n l (rdS n l p).1 q2) := by
    intro p1 q1 er hp1 g ⟨c1, c2⟩
    unfold rdS
    rw [er, clz_e]
    by_cases e : hr n l p1 = some 59
    · rw [if_neg (by rintro (z | z); cases z; exact z e)]
      obtain ⟨q2, x, y⟩ := c1 e
      exact ⟨(hr_s e).2, fun _ => ⟨q2, aG_t g x, y⟩, fun z => by cases z⟩
    · rw [if_pos (Or.inr e)]
      exact ⟨hp1, (fun z => by cases z), fun _ => ⟨q1, g, c2 e⟩⟩
  have bad : ∀ (p1 : Nat), rd1 n l p = (p1, true) → p1 ≤ n → (∃ q1, aG l p q p1 q1 ∧ aX n l p1 q1) → (rdS n l p).1 ≤ n ∧ ((rdS n l p).2 = false → ∃ q2, aG l p q (rdS n l p).1 q2 ∧ q2.1 = 0) ∧ ((rdS n l p).2 = true → ∃ q2, aG l p q (rdS n l p).1 q2 ∧ aX n l (rdS n l p).1 q2) := by
    intro p1 er hp1 g
    unfold rdS
    rw [er, clz_e, if_pos (Or.inl rfl)]
    exact ⟨hp1, (fun z => by cases z), fun _ => g⟩
  have op : ∀ c, au q c = auO q c := fun c => by unfold au; rw [if_pos hq]
  have hrp := hr_l (l := l) hp
  by_cases c1 : l p = 109
  · have s0 : aG l p q (p + 1) (1, 0, 6, 0, 0) := aG_e (by rw [op, c1]; rfl)
    have e1 : hr n l p = some 109 := by rw [hrp, c1]
    have er : rd1 n l p = ((rdM n l (p + 1)).2.2.2.1, (rdM n l (p + 1)).2.2.2.2) := by unfold rd1; rw [if_pos e1]
    obtain ⟨m1, m2⟩ := a_rdM (n := n) (p := p + 1) (l := l) hp
    cases eb : (rdM n l (p + 1)).2.2.2.2 with
    | true =>
      rw [eb] at er
      obtain ⟨b0, q1, b1, b2⟩ := m1 eb
      exact bad _ er b0 ⟨q1, aG_t s0 b1, b2⟩
    | false =>
      rw [eb] at er
      obtain ⟨b1, b2, b3, b4⟩ := m2 eb
      exact join _ _ er b4 (aG_t s0 b1) (a_end (by omega) (fun z => b3 (by omega)))
  · have n1 : hr n l p ≠ some 109 := by rw [hrp]; simpa using c1
    by_cases c2 : l p = 112
    · have s0 : aG l p q (p + 1) (2, 0, 6, 0, 0) := aG_e (by rw [op, c2]; rfl)
      have e1 : hr n l p = some 112 := by rw [hrp, c2]
      have er : rd1 n l p = ((dg5 n l (p + 1)).2, (dg4 n l (p + 1)).2.2) := by unfold rd1; rw [if_neg n1, if_pos e1]
      obtain ⟨m1, m2⟩ := a_dg (n := n) (p := p + 1) (l := l) (r := (0, 6, 0, 0)) hp
      cases eb : (dg4 n l (p + 1)).2.2 with
      | true =>
        have e5 : (dg5 n l (p + 1)).2 = (dg4 n l (p + 1)).2.1 := by unfold dg5; rw [if_pos eb]
        rw [eb, e5] at er
        obtain ⟨b0, q1, b1, b2⟩ := m1 eb
        exact bad _ er b0 ⟨q1, aG_t s0 b1, b2⟩
      | false =>
        have e5 : dg5 n l (p + 1) = spF n l 6 0 (dg4 n l (p + 1)).2.1 := by unfold dg5; rw [if_neg (by rw [eb]; decide)]
        rw [eb, e5] at er
        obtain ⟨b0, ph, b1, b2⟩ := m2 eb
        obtain ⟨s1, ph2, s2, s3, s4⟩ := a_spF (rb := 0) (wd := 6) (co := 0) 6 0 (dg4 n l (p + 1)).2.1 ph b0 rfl b2
        have sp := spF_p n l 6 0 (dg4 n l (p + 1)).2.1
        exact join _ _ er s1 (aG_t s0 (aG_t b1 s2)) (a_pend (by omega) s3 s4)
    · have n2 : hr n l p ≠ some 112 := by rw [hrp]; simpa using c2
      by_cases c3 : l p = 100
      · have s0 : aG l p q (p + 1) (7, 0, 6, 0, 0) := aG_e (by rw [op, c3]; rfl)
        have e1 : hr n l p = some 100 := by rw [hrp, c3]
        have er : rd1 n l p = (rdD n l (p + 1) false).2 := by unfold rd1; rw [if_neg n1, if_neg n2, if_pos e1]
        obtain ⟨d1, d2⟩ := a_d (n := n) (p := p + 1) (l := l) (ph := 7) (nx := 8) (r := (0, 6, 0, 0)) (by decide) (fun c => rfl)
        cases eb : isD (hr n l (p + 1)) with
        | false =>
          rw [rdD_b eb] at er
          exact bad _ er hp ⟨_, s0, d2 eb⟩
        | true =>
          rw [rdD_g eb] at er
          obtain ⟨x1, x2⟩ := d1 eb
          refine join _ _ er x2 (aG_t s0 x1) ⟨fun e => ⟨(0, 0, 6, 0, 0), aG_e (by rw [(hr_s e).1]; rfl), rfl⟩, fun e => ⟨fun hpn => ?_, fun _ => by show (8 : Nat) ≠ 0; decide⟩⟩
          show decide (l (p + 1 + 1) = 59) = false
          rw [hr_l hpn] at e
          exact decide_eq_false (fun y => e (by rw [y]))
      · have n3 : hr n l p ≠ some 100 := by rw [hrp]; simpa using c3
        have er : rd1 n l p = (p, true) := by unfold rd1; rw [if_neg n1, if_neg n2, if_neg n3]
        refine bad _ er (by omega) ⟨q, aG_r _ _ _, fun _ => ?_, fun z => by omega⟩
        rw [op]
        unfold auO
        rw [if_neg c1, if_neg c2, if_neg c3]
