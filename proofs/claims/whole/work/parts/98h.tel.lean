/-! LETTERS: what a moor's letters tell, read again -/
abbrev TM : Type := Nat × Nat × Nat × Nat
def tm1 (t : TM) (c : Nat) : TM := if c = 47 then (t.1 + 1, t.2) else (t.1, t.2.1 + (if t.1 = 1 then 1 else 0), t.2.2.1 + 1, if c = 35 then t.2.2.2 ||| 2 ^ t.2.2.1 else t.2.2.2)
def tmF (l : Nat → Nat) : Nat → Nat → TM → TM
  | 0, _, t => t
  | n + 1, i, t => tmF l n (i + 1) (tm1 t (l i))
theorem tmF_t (l : Nat → Nat) : ∀ a b i t, tmF l (a + b) i t = tmF l b (i + a) (tmF l a i t) := by
  intro a
  induction a with
  | zero => intro b i t; rw [Nat.zero_add, Nat.add_zero]; rfl
  | succ a ih =>
    intro b i t
    rw [Nat.add_right_comm, tmF, ih, tmF, show i + 1 + a = i + (a + 1) by omega]
def tG (l : Nat → Nat) (p : Nat) (t : TM) (p2 : Nat) (t2 : TM) : Prop := p ≤ p2 ∧ tmF l (p2 - p) p t = t2
theorem tG_r (l : Nat → Nat) (p : Nat) (t : TM) : tG l p t p t := ⟨Nat.le_refl _, by rw [Nat.sub_self]; rfl⟩
theorem tG_t {l : Nat → Nat} {p p1 p2 : Nat} {t t1 t2 : TM} (a : tG l p t p1 t1) (b : tG l p1 t1 p2 t2) : tG l p t p2 t2 := by
  refine ⟨Nat.le_trans a.1 b.1, ?_⟩
  have h1 := a.1
  have h2 := b.1
  rw [show p2 - p = (p1 - p) + (p2 - p1) by omega, tmF_t, a.2, show p + (p1 - p) = p1 by omega]
  exact b.2
theorem tG_1 {l : Nat → Nat} {p : Nat} {t t2 : TM} (h : tm1 t (l p) = t2) : tG l p t (p + 1) t2 := by
  refine ⟨by omega, ?_⟩
  rw [show p + 1 - p = 0 + 1 by omega]
  exact h
theorem tG_g {n p : Nat} {l : Nat → Nat} {R C c b : Nat} (h : isG (hr n l p) = true) : tG l p (R, C, c, b) (p + 1) (R, C + (if R = 1 then 1 else 0), c + 1, if hr n l p = some 35 then b ||| 2 ^ c else b) := by
  obtain ⟨h1, h2⟩ := isG_l h
  refine tG_1 ?_
  unfold tm1
  rw [if_neg (by omega), hr_l h1]
  by_cases e : l p = 35
  · have e2 : some (l p) = some 35 := by rw [e]
    rw [if_pos e, if_pos e2]
  · have e2 : ¬ some (l p) = some 35 := by simpa using e
    rw [if_neg e, if_neg e2]
theorem t_gr1 {n : Nat} {l : Nat → Nat} : ∀ f c p b, tG l p (1, c, c, b) (gr1 n l f c p b).2.2 (1, (gr1 n l f c p b).1, (gr1 n l f c p b).1, (gr1 n l f c p b).2.1) := by
  intro f
  induction f with
  | zero => intro c p b; exact tG_r _ _ _
  | succ f ih =>
    intro c p b
    unfold gr1
    by_cases e : isG (hr n l p) = true
    · rw [if_pos e]
      exact tG_t (tG_g e) (ih _ _ _)
    · rw [if_neg e]; exact tG_r _ _ _
theorem t_gr2 {n : Nat} {l : Nat → Nat} {R C : Nat} (hR : R ≠ 1) : ∀ f c p b, (gr2 n l f c p b).2.2.2 = false → tG l p (R, C, c, b) (gr2 n l f c p b).2.2.1 (R, C, (gr2 n l f c p b).1, (gr2 n l f c p b).2.1) := by
  intro f
  induction f with
  | zero => intro c p b _; exact tG_r _ _ _
  | succ f ih =>
    intro c p b
    unfold gr2
    by_cases e : isG (hr n l p) = true
    · rw [if_pos e]
      intro z
      have g := tG_g (R := R) (C := C) (c := c) (b := b) e
      rw [if_neg hR, Nat.add_zero] at g
      exact tG_t g (ih _ _ _ z)
    · rw [if_neg e]; intro z; cases z
theorem t_gr3 {n : Nat} {l : Nat → Nat} {wd : Nat} : ∀ f c p b hg, 1 ≤ hg → c = wd * hg → (gr3 n l wd f c p b hg).2.2.2 = false → tG l p (hg, wd, c, b) (gr3 n l wd f c p b hg).2.2.1 ((gr3 n l wd f c p b hg).1, wd, wd * (gr3 n l wd f c p b hg).1, (gr3 n l wd f c p b hg).2.1) := by
  intro f
  induction f with
  | zero => intro c p b hg _ hc _; subst hc; exact tG_r _ _ _
  | succ f ih =>
    intro c p b hg h1 hc
    unfold gr3
    by_cases e7 : hr n l p = some 47
    · rw [if_pos e7]
      by_cases eb : (gr2 n l wd c (p + 1) b).2.2.2 = true
      · rw [if_pos eb]; intro z; cases z
      · rw [if_neg eb]
        intro z
        have st : tG l p (hg, wd, c, b) (p + 1) (hg + 1, wd, c, b) := tG_1 (by unfold tm1; rw [if_pos (hr_s e7).1])
        have e2 : (gr2 n l wd c (p + 1) b).1 = c + wd := by
          have : ∀ f c p b, (gr2 n l f c p b).2.2.2 = false → (gr2 n l f c p b).1 = c + f := by
            intro f
            induction f with
            | zero => intro c p b _; rfl
            | succ f ih =>
              intro c p b
              unfold gr2
              split
              · intro z; have := ih _ _ _ z; omega
              · intro z; cases z
          exact this _ _ _ _ (bnt eb)
        exact tG_t st (tG_t (t_gr2 (by omega) wd c (p + 1) b (bnt eb)) (ih _ _ _ (hg + 1) (by omega) (by rw [e2, hc, Nat.mul_add, Nat.mul_one]) z))
    · rw [if_neg e7]; intro _; subst hc; exact tG_r _ _ _
theorem t_rdM {n p : Nat} {l : Nat → Nat} (z : (rdM n l p).2.2.2.2 = false) : tG l p (1, 0, 0, 0) (rdM n l p).2.2.2.1 ((rdM n l p).1, (rdM n l p).2.1, (rdM n l p).2.1 * (rdM n l p).1, (rdM n l p).2.2.1) := by
  have g1 := t_gr1 (n := n) (l := l) 6 0 p 0
  unfold rdM at z ⊢
  by_cases e : (gr1 n l 6 0 p 0).1 < 2 ∨ hr n l (gr1 n l 6 0 p 0).2.2 ≠ some 47
  · rw [if_pos e] at z; cases z
  · rw [if_neg e] at z ⊢
    exact tG_t g1 (t_gr3 4 _ _ _ 1 (by omega) (by omega) z)
/-- no end mark before the end -/
def nE (l : Nat → Nat) (p p2 : Nat) : Prop := ∀ i, p ≤ i → i < p2 → l i ≠ 59
theorem nE_t {l : Nat → Nat} {p p1 p2 : Nat} (a : nE l p p1) (b : nE l p1 p2) : nE l p p2 := fun i h1 h2 => by
  rcases Nat.lt_or_ge i p1 with z | z
  · exact a i h1 z
  · exact b i z h2
theorem nE_r (l : Nat → Nat) (p : Nat) : nE l p p := fun i h1 h2 => by omega
theorem nE_1 {l : Nat → Nat} {p : Nat} (h : l p ≠ 59) : nE l p (p + 1) := fun i h1 h2 => by
  obtain rfl : i = p := by omega
  exact h
theorem nE_gr1 {n : Nat} {l : Nat → Nat} : ∀ f c p b, nE l p (gr1 n l f c p b).2.2 := by
  intro f
  induction f with
  | zero => intro c p b; exact nE_r _ _
  | succ f ih =>
    intro c p b
    unfold gr1
    split
    · rename_i e; exact nE_t (nE_1 (by have := (isG_l e).2; omega)) (ih _ _ _)
    · exact nE_r _ _
theorem nE_gr2 {n : Nat} {l : Nat → Nat} : ∀ f c p b, nE l p (gr2 n l f c p b).2.2.1 := by
  intro f
  induction f with
  | zero => intro c p b; exact nE_r _ _
  | succ f ih =>
    intro c p b
    unfold gr2
    split
    · rename_i e; exact nE_t (nE_1 (by have := (isG_l e).2; omega)) (ih _ _ _)
    · exact nE_r _ _
theorem nE_gr3 {n : Nat} {l : Nat → Nat} {wd : Nat} : ∀ f c p b hg, nE l p (gr3 n l wd f c p b hg).2.2.1 := by
  intro f
  induction f with
  | zero => intro c p b hg; exact nE_r _ _
  | succ f ih =>
    intro c p b hg
    unfold gr3
    split
    · rename_i e
      have st : nE l p (p + 1) := nE_1 (by rw [(hr_s e).1]; decide)
      split
      · exact nE_t st (nE_gr2 _ _ _ _)
      · exact nE_t st (nE_t (nE_gr2 _ _ _ _) (ih _ _ _ _))
    · exact nE_r _ _
theorem nE_rdM {n p : Nat} {l : Nat → Nat} : nE l p (rdM n l p).2.2.2.1 := by
  unfold rdM
  split
  · exact nE_gr1 _ _ _ _
  · exact nE_t (nE_gr1 6 0 p 0) (nE_gr3 4 _ _ _ _)
theorem nE_spF {n : Nat} {l : Nat → Nat} : ∀ f j p, nE l p (spF n l f j p).2 := by
  intro f
  induction f with
  | zero => intro j p; exact nE_r _ _
  | succ f ih =>
    intro j p
    unfold spF
    cases e : stO (hr n l p) with
    | none => exact nE_r _ _
    | some s =>
      refine nE_t (nE_1 (fun z => ?_)) (ih _ _)
      have := (stO_l e).2
      rw [z] at this
      cases this
theorem nE_d {n p : Nat} {l : Nat → Nat} (h : isD (hr n l p) = true) : nE l p (p + 1) := nE_1 (by have := isD_l h; omega)
/-- within a good statement -/
theorem nE_stm {n p : Nat} {l : Nat → Nat} (h : (rd1 n l p).2 = false) : nE l p (rd1 n l p).1 := by
  have kn := of_decide_eq_true (rd1_p h).2
  have hd : nE l p (p + 1) := by
    refine nE_1 (fun z => ?_)
    rcases kn with k | k | k <;> (have := (hr_s k).1; omega)
  unfold rd1 at h ⊢
  by_cases c1 : hr n l p = some 109
  · rw [if_pos c1] at h ⊢
    exact nE_t hd nE_rdM
  · rw [if_neg c1] at h ⊢
    by_cases c2 : hr n l p = some 112
    · rw [if_pos c2] at h ⊢
      have h : (dg4 n l (p + 1)).2.2 = false := h
      obtain ⟨-, -, -, -, -, -, i1, i2, i3, -, -, -, i4⟩ := dg4_ok h
      have e5 : dg5 n l (p + 1) = spF n l 6 0 (dg4 n l (p + 1)).2.1 := by unfold dg5; rw [if_neg (by rw [h]; decide)]
      rw [e5]
      refine nE_t hd (nE_t (nE_t (nE_d i1) (nE_t (nE_d i2) (nE_d i3))) (nE_t ?_ (nE_spF 6 0 _)))
      rcases i4 with ⟨y1, y2, -⟩ | ⟨-, y2, -⟩
      · rw [y2]; exact nE_d y1
      · rw [y2]; exact nE_r _ _
    · rw [if_neg c2] at h ⊢
      by_cases c3 : hr n l p = some 100
      · rw [if_pos c3] at h ⊢
        have := (rdD_ok n l (p + 1) false).2.2 h
        rw [this.1]
        exact nE_t hd (nE_d this.2.2.1)
      · rw [if_neg c3] at h; cases h
theorem c_sign {h : Hp} {n p : Nat} {l : Nat → Nat} (g : LT h n l) (hp : p < n) : call 413 [vo (some (31, 4, 0)), vi (nI p)] h = some (some (vi (nI (l p))), h) := by
  obtain ⟨n80, t0, t1, t2⟩ := g
  have e : ¬ n ≤ p := by omega
  have v := (t2 p hp).1
  simp (disch := omega) only [e_413, x_413, xs, ↓reduceIte, nl_l0, t0, nl_le, e, t1, ↓ib_n, cl_n, v]
theorem c_digit {h : Hp} {n p : Nat} {l : Nat → Nat} (g : LT h n l) (hd : isD (hr n l p) = true) : call 414 [vo (some (31, 4, 0)), vi (nI p)] h = some (some (vi (nI (l p - 48))), h) := by
  obtain ⟨d1, d2, d3, d4⟩ := isD_l hd
  have s := c_sign g d4
  have e : nI (l p) - 48 = nI (l p - 48) := by rw [show (48 : Int32) = nI 48 from rfl, pk_sub (by omega)]
  simp (disch := omega) only [e_414, x_414, xs, s, e]
theorem tm_c (l : Nat → Nat) : ∀ n i t, t.2.2.1 ≤ (tmF l n i t).2.2.1 := by
  intro n
  induction n with
  | zero => intro i t; exact Nat.le_refl _
  | succ n ih =>
    intro i t
    have := ih (i + 1) (tm1 t (l i))
    rw [tmF]
    refine Nat.le_trans ?_ this
    unfold tm1
    split
    · exact Nat.le_refl _
    · exact Nat.le_succ _
theorem c_tm_l {h : Hp} {n e : Nat} {l : Nat → Nat} (g : LT h n l) (he : e ≤ n) (l1 l2 : Option AV) : ∀ (m i : Nat) (t : TM), i + m = e → (tmF l m i t).2.2.1 ≤ 30 → t.2.2.2 < 2 ^ 30 → t.1 + m ≤ 1000 → run 3 416 17 [some (vo (some (31, 4, 0))), l1, l2, some (vi (nI e)), some (vi (nI t.1)), some (vi (nI t.2.1)), some (vi (nI t.2.2.1)), some (vi (nI t.2.2.2)), some (vi (nI i))] [] h = run 3 416 89 [some (vo (some (31, 4, 0))), l1, l2, some (vi (nI e)), some (vi (nI (tmF l m i t).1)), some (vi (nI (tmF l m i t).2.1)), some (vi (nI (tmF l m i t).2.2.1)), some (vi (nI (tmF l m i t).2.2.2)), some (vi (nI e))] [] h := by
  have n80 := g.1
  intro m
  induction m with
  | zero =>
    intro i t hi hc hb hr
    obtain rfl : i = e := by omega
    rw [x_416_17]
    unfold tmF
    generalize hX : run 3 416 89 _ _ _ = X
    simp (disch := omega) only [x_416, xs, ↓reduceIte, nl_le, Nat.le_refl, ↓hX]
  | succ m ih =>
    intro i t hi hc hb hr
    have ne : ¬ e ≤ i := by omega
    have s := c_sign g (p := i) (by omega)
    have lb := (g.2.2.2 i (by omega)).2
    have mono := tm_c l m (i + 1) (tm1 t (l i))
    rw [tmF] at hc ⊢
    have q47 : (nI (l i) = 47) = (l i = 47) := by rw [show (47 : Int32) = nI 47 from rfl, nl_eq (by omega) (by decide)]
    have q35 : (nI (l i) = 35) = (l i = 35) := by rw [show (35 : Int32) = nI 35 from rfl, nl_eq (by omega) (by decide)]
    rw [x_416_17]
    by_cases e7 : l i = 47
    · have et : tm1 t (l i) = (t.1 + 1, t.2) := by unfold tm1; rw [if_pos e7]
      rw [et] at hc mono ⊢
      rw [← ih (i + 1) (t.1 + 1, t.2) (by omega) hc hb (by show t.1 + 1 + m ≤ 1000; omega)]
      simp (disch := omega) only [x_416, xs, ↓reduceIte, nl_le, ne, s, q47, eq_true e7, nl_inc]
    · have cb : t.2.2.1 + 1 ≤ 30 := by
        have : (tm1 t (l i)).2.2.1 = t.2.2.1 + 1 := by unfold tm1; rw [if_neg e7]
        omega
      have p2 := p2_lt (c := t.2.2.1) (by omega)
      have z0 : nI t.2.2.2 ||| 0 = nI t.2.2.2 := by simp
      have za : nI t.2.1 + 0 = nI (t.2.1 + 0) := by simp
      have q1 : (nI t.1 = 1) = (t.1 = 1) := by rw [show (1 : Int32) = nI 1 from rfl, nl_eq (by omega) (by decide)]
      by_cases e5 : l i = 35
      · have ob : t.2.2.2 ||| 2 ^ t.2.2.1 < 2 ^ 30 := or_lt hb (by omega)
        by_cases e1 : t.1 = 1
        · have et : tm1 t (l i) = (t.1, t.2.1 + 1, t.2.2.1 + 1, t.2.2.2 ||| 2 ^ t.2.2.1) := by unfold tm1; rw [if_neg e7, if_pos e1, if_pos e5]
          rw [et] at hc ⊢
          rw [← ih (i + 1) (t.1, t.2.1 + 1, t.2.2.1 + 1, t.2.2.2 ||| 2 ^ t.2.2.1) (by omega) hc ob (by show t.1 + m ≤ 1000; omega)]
          simp (disch := omega) only [x_416, xs, ↓reduceIte, nl_le, ne, s, q47, e7, q35, eq_true e5, nl_s1, nl_or, q1, eq_true e1, nl_inc]
        · have et : tm1 t (l i) = (t.1, t.2.1 + 0, t.2.2.1 + 1, t.2.2.2 ||| 2 ^ t.2.2.1) := by unfold tm1; rw [if_neg e7, if_neg e1, if_pos e5]
          rw [et] at hc ⊢
          rw [← ih (i + 1) (t.1, t.2.1 + 0, t.2.2.1 + 1, t.2.2.2 ||| 2 ^ t.2.2.1) (by omega) hc ob (by show t.1 + m ≤ 1000; omega)]
          simp (disch := omega) only [x_416, xs, ↓reduceIte, nl_le, ne, s, q47, e7, q35, eq_true e5, nl_s1, nl_or, q1, e1, za, nl_inc]
      · by_cases e1 : t.1 = 1
        · have et : tm1 t (l i) = (t.1, t.2.1 + 1, t.2.2.1 + 1, t.2.2.2) := by unfold tm1; rw [if_neg e7, if_pos e1, if_neg e5]
          rw [et] at hc ⊢
          rw [← ih (i + 1) (t.1, t.2.1 + 1, t.2.2.1 + 1, t.2.2.2) (by omega) hc hb (by show t.1 + m ≤ 1000; omega)]
          simp (disch := omega) only [x_416, xs, ↓reduceIte, nl_le, ne, s, q47, e7, q35, e5, z0, q1, eq_true e1, nl_inc]
        · have et : tm1 t (l i) = (t.1, t.2.1 + 0, t.2.2.1 + 1, t.2.2.2) := by unfold tm1; rw [if_neg e7, if_neg e1, if_neg e5]
          rw [et] at hc ⊢
          rw [← ih (i + 1) (t.1, t.2.1 + 0, t.2.2.1 + 1, t.2.2.2) (by omega) hc hb (by show t.1 + m ≤ 1000; omega)]
          simp (disch := omega) only [x_416, xs, ↓reduceIte, nl_le, ne, s, q47, e7, q35, e5, z0, q1, e1, za, nl_inc]
