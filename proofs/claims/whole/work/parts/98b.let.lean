/-! LETTERS: the class checks the form letter by letter -/
/-- phase, rows before, width, column, planned -/
abbrev AS : Type := Nat × Nat × Nat × Nat × Nat
def auC (q : AS) (c : Nat) : AS × Bool := ((0, q.2), decide (c = 59))
def auP (q : AS) (c : Nat) : AS × Bool := if stL c = none then auC q c else ((6, q.2.1, q.2.2.1, q.2.2.2.1, q.2.2.2.2 + 1), decide (q.2.2.2.2 + 1 ≤ 6))
def auD (q : AS) (c t : Nat) : AS × Bool := if isD (some c) = true then ((t, q.2), true) else (q, false)
def auO (_ : AS) (c : Nat) : AS × Bool := if c = 109 then (⟨1, 0, 6, 0, 0⟩, true) else if c = 112 then (⟨2, 0, 6, 0, 0⟩, true) else if c = 100 then (⟨7, 0, 6, 0, 0⟩, true) else (⟨0, 0, 6, 0, 0⟩, false)
def auR (q : AS) (c : Nat) : AS × Bool :=
  if c = 46 ∨ c = 35 then ((q.1, q.2.1, q.2.2.1, q.2.2.2.1 + 1, q.2.2.2.2), decide (q.2.2.2.1 + 1 ≤ q.2.2.1))
  else if c = 47 then ((q.1, q.2.1 + 1, q.2.2.2.1, 0, q.2.2.2.2), (if q.2.1 = 0 then decide (2 ≤ q.2.2.2.1) else decide (q.2.2.2.1 = q.2.2.1)) && decide (q.2.1 + 1 < 5))
  else if 0 < q.2.1 ∧ q.2.2.2.1 = q.2.2.1 then auC q c else (q, false)
def au (q : AS) (c : Nat) : AS × Bool :=
  if q.1 = 0 then auO q c else if q.1 = 1 then auR q c else if q.1 = 2 then auD q c 3 else if q.1 = 3 then auD q c 4 else if q.1 = 4 then auD q c 5
  else if q.1 = 5 then (if isD (some c) = true then auD q c 6 else auP q c) else if q.1 = 6 then auP q c else if q.1 = 7 then auD q c 8 else auC q c
/-- m letters from i on, all taken -/
def aR (l : Nat → Nat) : Nat → Nat → AS → Option AS
  | 0, _, q => some q
  | m + 1, i, q => if (au q (l i)).2 = true then aR l m (i + 1) (au q (l i)).1 else none
theorem aR_t {l : Nat → Nat} : ∀ a b i q q1, aR l a i q = some q1 → aR l (a + b) i q = aR l b (i + a) q1 := by
  intro a
  induction a with
  | zero => intro b i q q1 h; cases h; rw [Nat.zero_add, Nat.add_zero]
  | succ a ih =>
    intro b i q q1 h
    rw [Nat.add_right_comm]
    rw [aR] at h
    split at h
    · rename_i e
      rw [aR, if_pos e, ih b _ _ _ h, show i + 1 + a = i + (a + 1) by omega]
    · cases h
/-- from p with q one comes to p2 with q2, taking all -/
def aG (l : Nat → Nat) (p : Nat) (q : AS) (p2 : Nat) (q2 : AS) : Prop := p ≤ p2 ∧ aR l (p2 - p) p q = some q2
theorem aG_r (l : Nat → Nat) (p : Nat) (q : AS) : aG l p q p q := ⟨Nat.le_refl _, by rw [Nat.sub_self]; rfl⟩
theorem aG_t {l : Nat → Nat} {p p1 p2 : Nat} {q q1 q2 : AS} (a : aG l p q p1 q1) (b : aG l p1 q1 p2 q2) : aG l p q p2 q2 := by
  refine ⟨Nat.le_trans a.1 b.1, ?_⟩
  have h1 := a.1
  have h2 := b.1
  rw [show p2 - p = (p1 - p) + (p2 - p1) by omega, aR_t _ _ _ _ _ a.2, show p + (p1 - p) = p1 by omega]
  exact b.2
theorem aG_1 {l : Nat → Nat} {p : Nat} {q : AS} (h : (au q (l p)).2 = true) : aG l p q (p + 1) (au q (l p)).1 := by
  refine ⟨by omega, ?_⟩
  rw [show p + 1 - p = 0 + 1 by omega]
  unfold aR
  rw [if_pos h]
  rfl
theorem aG_e {l : Nat → Nat} {p : Nat} {q q2 : AS} (h : au q (l p) = (q2, true)) : aG l p q (p + 1) q2 := by
  have := aG_1 (l := l) (p := p) (q := q) (by rw [h])
  rw [h] at this
  exact this
/-- here it goes no further -/
def aX (n : Nat) (l : Nat → Nat) (p : Nat) (q : AS) : Prop := (p < n → (au q (l p)).2 = false) ∧ (n ≤ p → q.1 ≠ 0)
theorem hr_s {n p c : Nat} {l : Nat → Nat} (h : hr n l p = some c) : l p = c ∧ p < n := by
  unfold hr at h
  split at h
  · rename_i e; cases h; exact ⟨rfl, e⟩
  · cases h
theorem hr_l {n p : Nat} {l : Nat → Nat} (h : p < n) : hr n l p = some (l p) := if_pos h
theorem isG_l {n p : Nat} {l : Nat → Nat} (h : isG (hr n l p) = true) : p < n ∧ (l p = 46 ∨ l p = 35) := by
  unfold hr at h
  split at h
  · rename_i e
    refine ⟨e, ?_⟩
    simp only [isG, Bool.or_eq_true, decide_eq_true_eq] at h
    exact h
  · cases h
theorem isG_n {n p : Nat} {l : Nat → Nat} (h : isG (hr n l p) = false) (hp : p < n) : l p ≠ 46 ∧ l p ≠ 35 := by
  rw [hr_l hp] at h
  simp only [isG, Bool.or_eq_false_iff, decide_eq_false_iff_not] at h
  exact h
/-- ground: the first row -/
theorem a_gr1 {n : Nat} {l : Nat → Nat} {rb wd pn : Nat} : ∀ f c p b, c + f = wd → aG l p ⟨1, rb, wd, c, pn⟩ (gr1 n l f c p b).2.2 ⟨1, rb, wd, (gr1 n l f c p b).1, pn⟩ ∧ ((gr1 n l f c p b).1 < wd → isG (hr n l (gr1 n l f c p b).2.2) = false) := by
  intro f
  induction f with
  | zero => intro c p b hc; exact ⟨aG_r _ _ _, fun z => by have : c < wd := z; omega⟩
  | succ f ih =>
    intro c p b hc
    unfold gr1
    by_cases e : isG (hr n l p) = true
    · rw [if_pos e]
      obtain ⟨r1, r2⟩ := ih (c + 1) (p + 1) (if hr n l p = some 35 then b ||| 2 ^ c else b) (by omega)
      refine ⟨aG_t (aG_e ?_) r1, r2⟩
      have := (isG_l e).2
      unfold au auR
      simp only [Nat.reduceEqDiff, if_false, if_true, Nat.one_ne_zero]
      rw [if_pos this, decide_eq_true (by omega)]
    · rw [if_neg e]
      exact ⟨aG_r _ _ _, fun _ => bnt e⟩
theorem a_gr2 {n : Nat} {l : Nat → Nat} {rb wd pn : Nat} : ∀ f c p b co, co + f = wd → (gr2 n l f c p b).2.2.2 = false → aG l p ⟨1, rb, wd, co, pn⟩ (gr2 n l f c p b).2.2.1 ⟨1, rb, wd, wd, pn⟩ := by
  intro f
  induction f with
  | zero =>
    intro c p b co hc _
    obtain rfl : co = wd := by omega
    exact aG_r _ _ _
  | succ f ih =>
    intro c p b co hc
    unfold gr2
    by_cases e : isG (hr n l p) = true
    · rw [if_pos e]
      intro z
      refine aG_t (aG_e ?_) (ih (c + 1) (p + 1) _ (co + 1) (by omega) z)
      have := (isG_l e).2
      unfold au auR
      simp only [Nat.reduceEqDiff, if_false, if_true, Nat.one_ne_zero]
      rw [if_pos this, decide_eq_true (by omega)]
    · rw [if_neg e]; intro z; cases z
theorem a_gr2b {n : Nat} {l : Nat → Nat} {rb wd pn : Nat} (hrb : 0 < rb) : ∀ f c p b co, p ≤ n → co + f = wd → (gr2 n l f c p b).2.2.2 = true → (gr2 n l f c p b).2.2.1 ≤ n ∧ ∃ q, aG l p ⟨1, rb, wd, co, pn⟩ (gr2 n l f c p b).2.2.1 q ∧ aX n l (gr2 n l f c p b).2.2.1 q := by
  intro f
  induction f with
  | zero => intro c p b co _ _ z; cases z
  | succ f ih =>
    intro c p b co hp hc
    unfold gr2
    by_cases e : isG (hr n l p) = true
    · rw [if_pos e]
      intro z
      have g := isG_l e
      obtain ⟨r0, q, r1, r2⟩ := ih (c + 1) (p + 1) _ (co + 1) (by omega) (by omega) z
      refine ⟨r0, q, aG_t (aG_e ?_) r1, r2⟩
      unfold au auR
      simp only [Nat.reduceEqDiff, if_false, if_true, Nat.one_ne_zero]
      rw [if_pos g.2, decide_eq_true (by omega)]
    · rw [if_neg e]
      intro _
      refine ⟨hp, ⟨1, rb, wd, co, pn⟩, aG_r _ _ _, fun hpn => ?_, fun _ => by show (1 : Nat) ≠ 0; decide⟩
      have g := isG_n (bnt e) hpn
      unfold au auR
      simp only [Nat.reduceEqDiff, if_false, if_true, Nat.one_ne_zero]
      rw [if_neg (by rintro (z | z); exact g.1 z; exact g.2 z)]
      by_cases e7 : l p = 47
      · rw [if_pos e7, if_neg (by omega), decide_eq_false (by omega)]; rfl
      · rw [if_neg e7, if_neg (by omega)]
theorem a_end {n : Nat} {l : Nat → Nat} {rb wd pn p : Nat} (hrb : 0 < rb) (h47 : rb + 1 < 5 → hr n l p ≠ some 47) : (hr n l p = some 59 → ∃ q, aG l p ⟨1, rb, wd, wd, pn⟩ (p + 1) q ∧ q.1 = 0) ∧ (hr n l p ≠ some 59 → aX n l p ⟨1, rb, wd, wd, pn⟩) := by
  constructor
  · intro h
    have := (hr_s h).1
    refine ⟨⟨0, rb, wd, wd, pn⟩, aG_e ?_, rfl⟩
    unfold au auR auC
    simp only [Nat.reduceEqDiff, if_false, if_true, Nat.one_ne_zero]
    rw [this, if_neg (by decide), if_neg (by decide), if_pos ⟨hrb, trivial⟩]
    rfl
  · intro h
    refine ⟨fun hpn => ?_, fun _ => by show (1 : Nat) ≠ 0; decide⟩
    rw [hr_l hpn] at h h47
    unfold au auR auC
    simp only [Nat.reduceEqDiff, if_false, if_true, Nat.one_ne_zero]
    by_cases e1 : l p = 46 ∨ l p = 35
    · rw [if_pos e1]; exact decide_eq_false (by omega)
    · rw [if_neg e1]
      by_cases e7 : l p = 47
      · rw [if_pos e7]
        have : ¬ rb + 1 < 5 := fun z => h47 z (by rw [e7])
        rw [decide_eq_false this, Bool.and_false]
      · rw [if_neg e7, if_pos ⟨hrb, trivial⟩]
        exact decide_eq_false (fun z => h (by rw [z]))
/-- the further rows; q0: what stands before the stroke -/
theorem a_gr3 {n : Nat} {l : Nat → Nat} {wd pn : Nat} (hwd : 2 ≤ wd) : ∀ f c p b hg w0, p ≤ n → 1 ≤ hg → hg + f = 5 → (hg = 1 ∧ hr n l p = some 47) ∨ (2 ≤ hg ∧ w0 = wd) → ((gr3 n l wd f c p b hg).2.2.2 = false → aG l p ⟨1, hg - 1, w0, wd, pn⟩ (gr3 n l wd f c p b hg).2.2.1 ⟨1, (gr3 n l wd f c p b hg).1 - 1, wd, wd, pn⟩ ∧ 2 ≤ (gr3 n l wd f c p b hg).1 ∧ ((gr3 n l wd f c p b hg).1 < 5 → hr n l (gr3 n l wd f c p b hg).2.2.1 ≠ some 47) ∧ (gr3 n l wd f c p b hg).2.2.1 ≤ n) ∧ ((gr3 n l wd f c p b hg).2.2.2 = true → (gr3 n l wd f c p b hg).2.2.1 ≤ n ∧ ∃ q, aG l p ⟨1, hg - 1, w0, wd, pn⟩ (gr3 n l wd f c p b hg).2.2.1 q ∧ aX n l (gr3 n l wd f c p b hg).2.2.1 q) := by
  intro f
  induction f with
  | zero =>
    intro c p b hg w0 hp h1 hf h0
    have e2 : 2 ≤ hg ∧ w0 = wd := h0.resolve_left (fun z => by omega)
    obtain ⟨e3, rfl⟩ := e2
    unfold gr3
    exact ⟨fun _ => ⟨aG_r _ _ _, e3, fun z => by have : hg < 5 := z; omega, hp⟩, fun z => by cases z⟩
  | succ f ih =>
    intro c p b hg w0 hp h1 hf h0
    unfold gr3
    by_cases e7 : hr n l p = some 47
    · rw [if_pos e7]
      obtain ⟨s1, s2⟩ := hr_s e7
      have st : aG l p ⟨1, hg - 1, w0, wd, pn⟩ (p + 1) ⟨1, hg, wd, 0, pn⟩ := by
        refine aG_e ?_
        unfold au auR
        simp only [Nat.reduceEqDiff, if_false, if_true, Nat.one_ne_zero]
        rw [s1, if_neg (by decide), if_pos rfl, show hg - 1 + 1 = hg by omega, decide_eq_true (show hg < 5 by omega)]
        rcases h0 with ⟨z, -⟩ | ⟨z, rfl⟩
        · rw [if_pos (by omega), decide_eq_true hwd]; rfl
        · rw [if_neg (by omega), decide_eq_true rfl]; rfl
      by_cases eb : (gr2 n l wd c (p + 1) b).2.2.2 = true
      · rw [if_pos eb]
        obtain ⟨r0, q, r1, r2⟩ := a_gr2b (rb := hg) (wd := wd) (pn := pn) (by omega) wd c (p + 1) b 0 (by omega) (by omega) eb
        exact ⟨(fun z => by cases z), fun _ => ⟨r0, q, aG_t st r1, r2⟩⟩
      · rw [if_neg eb]
        have eb := bnt eb
        have r1 := a_gr2 (rb := hg) (wd := wd) (pn := pn) wd c (p + 1) b 0 (by omega) eb
        have pn2 : (gr2 n l wd c (p + 1) b).2.2.1 ≤ n := by
          have : ∀ f c p b, p ≤ n → (gr2 n l f c p b).2.2.1 ≤ n := by
            intro f
            induction f with
            | zero => intro c p b h; exact h
            | succ f ih =>
              intro c p b h
              unfold gr2
              split
              · rename_i e; exact ih _ _ _ (isG_l e).1
              · exact h
          exact this _ _ _ _ s2
        obtain ⟨i1, i2⟩ := ih (gr2 n l wd c (p + 1) b).1 (gr2 n l wd c (p + 1) b).2.2.1 (gr2 n l wd c (p + 1) b).2.1 (hg + 1) wd pn2 (by omega) (by omega) (Or.inr ⟨by omega, rfl⟩)
        rw [show hg + 1 - 1 = hg by omega] at i1 i2
        refine ⟨fun z => ?_, fun z => ?_⟩
        · obtain ⟨a, b⟩ := i1 z
          exact ⟨aG_t st (aG_t r1 a), b⟩
        · obtain ⟨a0, q, a, b⟩ := i2 z
          exact ⟨a0, q, aG_t st (aG_t r1 a), b⟩
    · rw [if_neg e7]
      have e2 : 2 ≤ hg ∧ w0 = wd := h0.resolve_left (fun z => e7 z.2)
      obtain ⟨e3, rfl⟩ := e2
      exact ⟨fun _ => ⟨aG_r _ _ _, e3, fun _ => e7, hp⟩, fun z => by cases z⟩
