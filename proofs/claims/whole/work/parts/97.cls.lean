/-! WATCHERS: both roads find the same -/
def wNx (w : Wo) (L : Nat → Nat) (inner : Nat → Nat → Option Nat) : Nat → Nat → Nat → Option Nat
  | 0, _, _ => none
  | n + 1, c, ms => if fre w c = true then (match inner (andn ms (L c)) (c + 1) with | some b => some (b ||| 2 ^ c) | none => wNx w L inner n (c + 1) ms) else wNx w L inner n (c + 1) ms
def wRc (w : Wo) (L : Nat → Nat) : Nat → Nat → Nat → Option Nat
  | 0, ms, c => wLs L (w 0 0 * w 0 1 - c) c ms
  | m + 1, ms, c => wNx w L (wRc w L m) (w 0 0 * w 0 1 - c) c ms
def TG (w : Wo) (L : Nat → Nat) (m ms c : Nat) (ch : Nat → Nat) : Prop := c ≤ ch 0 ∧ (∀ i, i < m → ch i < ch (i + 1)) ∧ ch m < w 0 0 * w 0 1 ∧ (∀ i, i < m → fre w (ch i) = true) ∧ andn ms (evL L ch (m + 1) 0 0) = 0
def mnP (w : Wo) (L : Nat → Nat) (m ms c : Nat) (o : Option Nat) : Prop := (∀ b, o = some b → ∃ ch, TG w L m ms c ch ∧ evB ch (m + 1) 0 0 = b ∧ ∀ c3, TG w L m ms c c3 → vlF ch (m + 1) ≤ vlF c3 (m + 1)) ∧ (o = none → ∀ c3, ¬ TG w L m ms c c3)
theorem mn_0 (w : Wo) (L : Nat → Nat) (ms : Nat) : ∀ n c, w 0 0 * w 0 1 ≤ c + n → n + c ≤ w 0 0 * w 0 1 ∨ n = 0 → mnP w L 0 ms c (wLs L n c ms) := by
  have ev1 : ∀ ch : Nat → Nat, evL L ch 1 0 0 = L (ch 0) := fun ch => by simp [evL]
  have eb1 : ∀ ch : Nat → Nat, evB ch 1 0 0 = 2 ^ ch 0 := fun ch => by simp [evB]
  have vl1 : ∀ ch : Nat → Nat, vlF ch 1 = ch 0 := fun ch => by simp [vlF]
  intro n
  induction n with
  | zero =>
    intro c h1 _
    refine ⟨(fun b e => by cases e), fun _ c3 h3 => ?_⟩
    have := h3.1
    have := h3.2.2.1
    omega
  | succ n ih =>
    intro c h1 h2
    unfold wLs
    by_cases e : andn ms (L c) = 0
    · rw [if_pos e]
      refine ⟨fun b eb => ?_, fun eb => by cases eb⟩
      cases eb
      refine ⟨fun _ => c, ⟨Nat.le_refl _, fun i hi => by omega, by show c < _; omega, fun i hi => by omega, by rw [ev1]; exact e⟩, eb1 _, fun c3 h3 => ?_⟩
      rw [vl1, vl1]
      exact h3.1
    · rw [if_neg e]
      obtain ⟨r1, r2⟩ := ih (c + 1) (by omega) (by omega)
      have up : ∀ c3, TG w L 0 ms c c3 → TG w L 0 ms (c + 1) c3 := fun c3 h3 => by
        refine ⟨?_, h3.2⟩
        rcases Nat.lt_or_ge c (c3 0) with z | z
        · exact z
        · have ec : c3 0 = c := by have := h3.1; omega
          have := h3.2.2.2.2
          rw [ev1, ec] at this
          exact absurd this e
      refine ⟨fun b eb => ?_, fun eb c3 h3 => r2 eb c3 (up c3 h3)⟩
      obtain ⟨ch, a1, a2, a3⟩ := r1 b eb
      exact ⟨ch, ⟨by have := a1.1; omega, a1.2⟩, a2, fun c3 h3 => a3 c3 (up c3 h3)⟩
def cns (c : Nat) (t : Nat → Nat) : Nat → Nat
  | 0 => c
  | i + 1 => t i
theorem TG_t {w : Wo} {L : Nat → Nat} {m ms c : Nat} {ch : Nat → Nat} (h : TG w L (m + 1) ms c ch) : fre w (ch 0) = true ∧ TG w L m (andn ms (L (ch 0))) (ch 0 + 1) (fun i => ch (i + 1)) := by
  obtain ⟨h1, h2, h3, h4, h5⟩ := h
  refine ⟨h4 0 (by omega), h2 0 (by omega), fun i hi => h2 (i + 1) (by omega), h3, fun i hi => h4 (i + 1) (by omega), ?_⟩
  rw [← andn_or, ← evL_0]
  exact h5
theorem TG_c {w : Wo} {L : Nat → Nat} {m ms c : Nat} {t : Nat → Nat} (hc : fre w c = true) (h : TG w L m (andn ms (L c)) (c + 1) t) : TG w L (m + 1) ms c (cns c t) := by
  obtain ⟨h1, h2, h3, h4, h5⟩ := h
  refine ⟨Nat.le_refl _, fun i hi => ?_, h3, fun i hi => ?_, ?_⟩
  · cases i with
    | zero => exact h1
    | succ i => exact h2 i (by omega)
  · cases i with
    | zero => exact hc
    | succ i => exact h4 i (by omega)
  · rw [evL_0, andn_or]
    exact h5
theorem TG_b {w : Wo} {L : Nat → Nat} {m ms c : Nat} {ch : Nat → Nat} (h : TG w L m ms c ch) : ∀ k, k < m + 1 → ch k < w 0 0 * w 0 1 := by
  obtain ⟨h1, h2, h3, -⟩ := h
  have : ∀ j, j ≤ m → ch (m - j) < w 0 0 * w 0 1 := by
    intro j
    induction j with
    | zero => intro _; exact h3
    | succ j ih =>
      intro hj
      have a := ih (by omega)
      have b := h2 (m - (j + 1)) (by omega)
      rw [show m - (j + 1) + 1 = m - j by omega] at b
      omega
  intro k hk
  have := this (m - k) (by omega)
  rw [show m - (m - k) = k by omega] at this
  exact this
theorem mn_s (w : Wo) (L : Nat → Nat) (m ms : Nat) (hA : w 0 0 * w 0 1 ≤ 30) (inner : Nat → Nat → Option Nat) (hi : ∀ ms c, mnP w L m ms c (inner ms c)) : ∀ n c, w 0 0 * w 0 1 ≤ c + n → n + c ≤ w 0 0 * w 0 1 ∨ n = 0 → mnP w L (m + 1) ms c (wNx w L inner n c ms) := by
  intro n
  induction n with
  | zero =>
    intro c h1 _
    refine ⟨(fun b e => by cases e), fun _ c3 h3 => ?_⟩
    have := h3.1
    have := TG_b h3 0 (by omega)
    omega
  | succ n ih =>
    intro c h1 h2
    have nx : (∀ c3, TG w L (m + 1) ms c c3 → c3 0 ≠ c) → mnP w L (m + 1) ms c (wNx w L inner n (c + 1) ms) := fun hne => by
      obtain ⟨r1, r2⟩ := ih (c + 1) (by omega) (by omega)
      have up : ∀ c3, TG w L (m + 1) ms c c3 → TG w L (m + 1) ms (c + 1) c3 := fun c3 h3 => ⟨by have := hne c3 h3; have := h3.1; omega, h3.2⟩
      refine ⟨fun b eb => ?_, fun eb c3 h3 => r2 eb c3 (up c3 h3)⟩
      obtain ⟨ch, a1, a2, a3⟩ := r1 b eb
      exact ⟨ch, ⟨by have := a1.1; omega, a1.2⟩, a2, fun c3 h3 => a3 c3 (up c3 h3)⟩
    unfold wNx
    by_cases f : fre w c = true
    · rw [if_pos f]
      obtain ⟨i1, i2⟩ := hi (andn ms (L c)) (c + 1)
      cases e : inner (andn ms (L c)) (c + 1) with
      | none =>
        refine nx (fun c3 h3 ec => ?_)
        have := (TG_t h3).2
        rw [ec] at this
        exact i2 e _ this
      | some b0 =>
        obtain ⟨t, a1, a2, a3⟩ := i1 b0 e
        refine ⟨fun b eb => ?_, fun eb => by cases eb⟩
        cases eb
        refine ⟨cns c t, TG_c f a1, ?_, fun c3 h3 => ?_⟩
        · rw [evB_0]
          show evB t (m + 1) 0 0 ||| 2 ^ c = _
          rw [a2]
        · rw [vlF_0 (cns c t) (m + 1), vlF_0 c3 (m + 1)]
          show c * 31 ^ (m + 1) + vlF t (m + 1) ≤ _
          have h30 := h3.1
          by_cases ec : c3 0 = c
          · have := (TG_t h3).2
            rw [ec] at this ⊢
            have := a3 _ this
            omega
          · have lt := vlF_lt (ch := t) (m + 1) (fun k hk => by have := TG_b a1 k hk; omega)
            have : (c + 1) * 31 ^ (m + 1) ≤ c3 0 * 31 ^ (m + 1) := Nat.mul_le_mul_right _ (by omega)
            rw [Nat.add_mul, Nat.one_mul] at this
            omega
    · rw [if_neg f]
      refine nx (fun c3 h3 ec => f ?_)
      rw [← ec]
      exact (TG_t h3).1
theorem wRc_min (w : Wo) (L : Nat → Nat) (hA : w 0 0 * w 0 1 ≤ 30) : ∀ m ms c, mnP w L m ms c (wRc w L m ms c) := by
  intro m
  induction m with
  | zero => intro ms c; exact mn_0 w L ms _ c (by omega) (by omega)
  | succ m ih => intro ms c; exact mn_s w L m ms hA (wRc w L m) ih _ c (by omega) (by omega)
theorem lkR_f (w : Wo) (s : Nat) : ∀ n to a, (∀ t, to = some t → fre w t = true) → (∀ k, a.testBit k = true → fre w k = true) → ∀ k, (lkR w s n to a).testBit k = true → fre w k = true := by
  intro n
  induction n with
  | zero => intro to a _ h; exact h
  | succ n ih =>
    intro to a ht h
    cases to with
    | none => exact h
    | some t =>
      unfold lkR
      refine ih _ _ (fun u hu => stp_fre hu) (fun k z => ?_)
      rw [Nat.testBit_or, Nat.testBit_two_pow] at z
      by_cases e : t = k
      · subst e; exact ht t rfl
      · simp only [e, decide_false, Bool.or_false] at z; exact h k z
theorem lkS_f (w : Wo) (r c : Nat) : ∀ n s a, (∀ k, a.testBit k = true → fre w k = true) → ∀ k, (lkS w r c n s a).testBit k = true → fre w k = true := by
  intro n
  induction n with
  | zero => intro s a h; exact h
  | succ n ih => intro s a h; unfold lkS; exact ih _ _ (lkR_f w s r _ a (fun t z => stp_fre z) h)
theorem lkA_f (w : Wo) (r c k : Nat) (h : (lkA w r c).testBit k = true) : fre w k = true := by
  unfold lkA at h
  split at h
  · rename_i e; exact lkS_f w r c 4 0 _ (p2_f e) k h
  · simp at h
theorem evL_f (w : Wo) (r : Nat) (ch : Nat → Nat) : ∀ n k a, (∀ j, a.testBit j = true → fre w j = true) → ∀ j, (evL (lkA w r) ch n k a).testBit j = true → fre w j = true := by
  intro n
  induction n with
  | zero => intro k a h; exact h
  | succ n ih =>
    intro k a h
    unfold evL
    refine ih _ _ (fun j z => ?_)
    rw [Nat.testBit_or, Bool.or_eq_true] at z
    rcases z with z | z
    · exact h j z
    · exact lkA_f w r _ j z
theorem ev_full {w : Wo} {r n : Nat} {ch : Nat → Nat} : andn (frB w) (evL (lkA w r) ch n 0 0) = 0 ↔ evL (lkA w r) ch n 0 0 = frB w := by
  constructor
  · intro h
    apply Nat.eq_of_testBit_eq
    intro k
    rw [frB_t]
    have h1 := (an_0 _ _).mp h k
    rw [frB_t] at h1
    have h2 := evL_f w r ch n 0 0 (fun j z => by simp at z) k
    cases a : (evL (lkA w r) ch n 0 0).testBit k with
    | true => exact (h2 a).symm
    | false =>
      cases b : fre w k with
      | false => rfl
      | true => rw [h1 b] at a; cases a
  · intro h
    rw [h, an_0]
    exact fun k z => z
theorem roads {w : Wo} {d r m : Nat} (hk : WOK d w) (hm : m ≤ 3) (h0 : frB w ≠ 0) (hp : 0 < m → fnd w r m = none) (ch : Nat → Nat) : TG w (lkA w r) m (frB w) 0 ch ↔ TV (w 0 0 * w 0 1) (m + 1) ch ∧ gdC w (lkA w r) (m + 1) ch = true := by
  have cc := cells_le hk
  constructor
  · intro h
    have hb := TG_b h
    obtain ⟨h1, h2, h3, h4, h5⟩ := id h
    have rise : ∀ j i, i + j ≤ m → ch i + j ≤ ch (i + j) := by
      intro j
      induction j with
      | zero => intro i _; exact Nat.le_refl _
      | succ j ih =>
        intro i hi
        have a := ih i (by omega)
        have b := h2 (i + j) (by omega)
        rw [show i + (j + 1) = i + j + 1 by omega]
        omega
    have tv : TV (w 0 0 * w 0 1) (m + 1) ch := ⟨fun i hi => h2 i (by omega), fun k hk => by
      have := rise (m - k) k (by omega)
      rw [show k + (m - k) = m by omega] at this
      omega⟩
    refine ⟨tv, ?_⟩
    have lf : fre w (ch m) = true := by
      cases q : fre w (ch m) with
      | true => rfl
      | false =>
        have l0 : lkA w r (ch m) = 0 := by unfold lkA; rw [q]; rfl
        rw [evL_l, Nat.zero_add, l0, Nat.or_zero] at h5
        have e5 := ev_full.mp h5
        cases m with
        | zero => exact absurd e5.symm h0
        | succ m =>
          have tv2 : TV (w 0 0 * w 0 1) (m + 1) ch := ⟨fun i hi => h2 i (by omega), fun k hk => by
            have a := rise (m + 1 - k) k (by omega)
            rw [show k + (m + 1 - k) = m + 1 by omega] at a
            omega⟩
          have := (fnd_min (r := r) hk (by omega : m + 1 ≤ 4)).2 (hp (by omega)) ch tv2
          unfold gdC at this
          rw [e5, (evR_i w ch (m + 1) 0 true).mpr ⟨rfl, fun i _ hi => h4 i (by omega)⟩] at this
          simp at this
    unfold gdC
    rw [ev_full.mp h5, (evR_i w ch (m + 1) 0 true).mpr ⟨rfl, fun i _ hi => ?_⟩]
    · simp
    · by_cases e : i = m
      · rw [e]; exact lf
      · exact h4 i (by omega)
  · rintro ⟨tv, g⟩
    unfold gdC at g
    simp only [Bool.and_eq_true, decide_eq_true_eq] at g
    have g1 := ((evR_i w ch (m + 1) 0 true).mp g.1).2
    refine ⟨Nat.zero_le _, fun i hi => tv.1 i (by omega), ?_, fun i hi => g1 i (by omega) (by omega), ev_full.mpr g.2⟩
    exact fre_lt (g1 m (by omega) (by omega))
theorem evB_c {c1 c2 : Nat → Nat} : ∀ n k a, (∀ i, k ≤ i → i < k + n → c1 i = c2 i) → evB c1 n k a = evB c2 n k a := by
  intro n
  induction n with
  | zero => intro k a _; rfl
  | succ n ih =>
    intro k a h
    rw [evB, evB, h k (by omega) (by omega), ih (k + 1) _ (fun i x y => h i (by omega) (by omega))]
theorem wR_eq {w : Wo} {d r m : Nat} (hk : WOK d w) (hm : m ≤ 3) (h0 : frB w ≠ 0) (hp : 0 < m → fnd w r m = none) : wRc w (lkA w r) m (frB w) 0 = fnd w r (m + 1) := by
  have cc := cells_le hk
  obtain ⟨a1, a2⟩ := wRc_min w (lkA w r) cc.2 m (frB w) 0
  obtain ⟨b1, b2⟩ := fnd_min (r := r) hk (by omega : m + 1 ≤ 4)
  have rd := roads (r := r) hk hm h0 hp
  cases e1 : wRc w (lkA w r) m (frB w) 0 with
  | none =>
    cases e2 : fnd w r (m + 1) with
    | none => rfl
    | some b =>
      obtain ⟨c2, x1, x2, -⟩ := b1 b e2
      exact absurd ((rd c2).mpr ⟨x1, x2⟩) (a2 e1 c2)
  | some b =>
    obtain ⟨c1, y1, y2, y3⟩ := a1 b e1
    obtain ⟨z1, z2⟩ := (rd c1).mp y1
    cases e2 : fnd w r (m + 1) with
    | none => rw [b2 e2 c1 z1] at z2; cases z2
    | some b' =>
      obtain ⟨c2, x1, x2, x3, x4⟩ := b1 b' e2
      have l1 := y3 c2 ((rd c2).mpr ⟨x1, x2⟩)
      have l2 := x4 c1 z1 z2
      have same : ∀ k, k < m + 1 → c1 k = c2 k := by
        rcases lex_tri c1 c2 (m + 1) with z | ⟨q, q1, q2, q3⟩
        · exact z
        · rcases Nat.lt_or_gt_of_ne q3 with y | y
          · have := vl_lex (m + 1) q1 q2 y (fun k hk => by have := z1.2 k hk; omega); omega
          · have := vl_lex (m + 1) q1 (fun i hi => (q2 i hi).symm) y (fun k hk => by have := x1.2 k hk; omega); omega
      rw [← y2, ← x3, evB_c (m + 1) 0 0 (fun i _ hi => same i (by omega))]
theorem pop_ev {A m : Nat} {ch : Nat → Nat} (hA : A ≤ 30) (h : TV A m ch) (hm : m ≤ A) : ∀ n k a, k + n = m → (∀ j, a.testBit j = true → ∃ i, i < k ∧ ch i = j) → pop (evB ch n k a) = pop a + n := by
  intro n
  induction n with
  | zero => intro k a _ _; rfl
  | succ n ih =>
    intro k a hk ha
    unfold evB
    have nb : a.testBit (ch k) = false := by
      cases q : a.testBit (ch k) with
      | false => rfl
      | true =>
        obtain ⟨i, h1, h2⟩ := ha _ q
        have := TV_r h (k - i) i (by omega)
        rw [show i + (k - i) = k by omega] at this
        omega
    have kb := h.2 k (by omega)
    rw [ih (k + 1) _ (by omega) (fun j z => ?_), pop_o1 nb (by omega)]
    · omega
    · rw [Nat.testBit_or, Nat.testBit_two_pow, Bool.or_eq_true] at z
      rcases z with z | z
      · obtain ⟨i, h1, h2⟩ := ha j z; exact ⟨i, by omega, h2⟩
      · exact ⟨k, by omega, of_decide_eq_true z⟩
theorem pop_f {w : Wo} {d r m b : Nat} (hk : WOK d w) (hm : m ≤ 4) (e : fnd w r m = some b) : pop b = m ∧ b < 2 ^ 30 := by
  have cc := cells_le hk
  obtain ⟨c2, x1, x2, x3, -⟩ := (fnd_min (r := r) hk hm).1 b e
  have p := pop_ev cc.2 x1 (by omega) m 0 0 (by omega) (fun j z => by simp at z)
  rw [x3, pop_0] at p
  refine ⟨by omega, ?_⟩
  rw [← x3]
  have : ∀ n k a, k + n ≤ m → a < 2 ^ 30 → evB c2 n k a < 2 ^ 30 := by
    intro n
    induction n with
    | zero => intro k a _ h; exact h
    | succ n ih => intro k a hk h; have kb := x1.2 k (by omega); exact ih _ _ (by omega) (or_lt h (by omega))
  exact this m 0 0 (by omega) (by decide)
