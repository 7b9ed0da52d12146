/-! WATCHERS: the first good set, by two roads -/
theorem vlF_0 (ch : Nat → Nat) : ∀ m, vlF ch (m + 1) = ch 0 * 31 ^ m + vlF (fun i => ch (i + 1)) m := by
  intro m
  induction m with
  | zero => simp [vlF]
  | succ m ih =>
    rw [vlF, ih, vlF, Nat.pow_succ, Nat.add_mul, Nat.mul_assoc, Nat.add_assoc]
theorem vl_mono {a b : Nat → Nat} : ∀ m, (∀ k, k < m → a k ≤ b k) → vlF a m ≤ vlF b m := by
  intro m
  induction m with
  | zero => intro _; exact Nat.le_refl _
  | succ m ih =>
    intro h
    have h1 := ih (fun k hk => h k (by omega))
    have h2 := h m (by omega)
    unfold vlF
    have := Nat.mul_le_mul_right 31 h1
    omega
theorem vl_lex {a b : Nat → Nat} {q : Nat} : ∀ m, q < m → (∀ i, i < q → a i = b i) → a q < b q → (∀ k, k < m → a k ≤ 30) → vlF a m < vlF b m := by
  intro m
  induction m with
  | zero => intro h; omega
  | succ m ih =>
    intro hq he hl hb
    unfold vlF
    by_cases e : q = m
    · subst e
      rw [vlF_c q he]
      omega
    · have h1 := ih (by omega) he hl (fun k hk => hb k (by omega))
      have h2 := hb m (by omega)
      have : vlF a m * 31 + 31 ≤ vlF b m * 31 := by omega
      omega
theorem lex_tri (a b : Nat → Nat) : ∀ m, (∀ k, k < m → a k = b k) ∨ ∃ q, q < m ∧ (∀ i, i < q → a i = b i) ∧ a q ≠ b q := by
  intro m
  induction m with
  | zero => exact Or.inl (fun k hk => by omega)
  | succ m ih =>
    rcases ih with h | ⟨q, h1, h2, h3⟩
    · by_cases e : a m = b m
      · refine Or.inl (fun k hk => ?_)
        by_cases e2 : k = m
        · rw [e2, e]
        · exact h k (by omega)
      · exact Or.inr ⟨m, by omega, h, e⟩
    · exact Or.inr ⟨q, by omega, h2, h3⟩
theorem evB_a (ch : Nat → Nat) : ∀ n k a, evB ch n k a = a ||| evB ch n k 0 := by
  intro n
  induction n with
  | zero => intro k a; simp [evB]
  | succ n ih => intro k a; rw [evB, ih, evB, ih (k + 1) (0 ||| _), Nat.zero_or, Nat.or_assoc]
theorem evB_s (ch : Nat → Nat) : ∀ n k a, evB ch n (k + 1) a = evB (fun i => ch (i + 1)) n k a := by
  intro n
  induction n with
  | zero => intro k a; rfl
  | succ n ih => intro k a; rw [evB, ih, evB]
theorem evL_a (L ch : Nat → Nat) : ∀ n k a, evL L ch n k a = a ||| evL L ch n k 0 := by
  intro n
  induction n with
  | zero => intro k a; simp [evL]
  | succ n ih => intro k a; rw [evL, ih, evL, ih (k + 1) (0 ||| _), Nat.zero_or, Nat.or_assoc]
theorem evL_s (L ch : Nat → Nat) : ∀ n k a, evL L ch n (k + 1) a = evL L (fun i => ch (i + 1)) n k a := by
  intro n
  induction n with
  | zero => intro k a; rfl
  | succ n ih => intro k a; rw [evL, ih, evL]
theorem evB_0 (ch : Nat → Nat) (n : Nat) : evB ch (n + 1) 0 0 = evB (fun i => ch (i + 1)) n 0 0 ||| 2 ^ ch 0 := by
  rw [evB, evB_a, evB_s, Nat.zero_or, Nat.or_comm]
theorem evL_0 (L ch : Nat → Nat) (n : Nat) : evL L ch (n + 1) 0 0 = L (ch 0) ||| evL L (fun i => ch (i + 1)) n 0 0 := by
  rw [evL, evL_a, evL_s, Nat.zero_or]
theorem evL_l (L ch : Nat → Nat) : ∀ n k a, evL L ch (n + 1) k a = evL L ch n k a ||| L (ch (k + n)) := by
  intro n
  induction n with
  | zero => intro k a; rfl
  | succ n ih => intro k a; rw [evL, ih, evL, show k + 1 + n = k + (n + 1) by omega]
theorem evR_i (w : Wo) (ch : Nat → Nat) : ∀ n k b, evR w ch n k b = true ↔ b = true ∧ ∀ i, k ≤ i → i < k + n → fre w (ch i) = true := by
  intro n
  induction n with
  | zero =>
    intro k b
    unfold evR
    exact ⟨fun h => ⟨h, fun i h1 h2 => by omega⟩, fun h => h.1⟩
  | succ n ih =>
    intro k b
    unfold evR
    rw [ih, Bool.and_eq_true]
    constructor
    · rintro ⟨⟨h1, h2⟩, h3⟩
      refine ⟨h1, fun i a c => ?_⟩
      by_cases e : i = k
      · rw [e]; exact h2
      · exact h3 i (by omega) (by omega)
    · rintro ⟨h1, h2⟩
      exact ⟨⟨h1, h2 k (by omega) (by omega)⟩, fun i a c => h2 i (by omega) (by omega)⟩
/-- rising, within A -/
def TV (A m : Nat) (ch : Nat → Nat) : Prop := (∀ i, i + 1 < m → ch i < ch (i + 1)) ∧ ∀ k, k < m → ch k ≤ A - m + k
theorem TV_r {A m : Nat} {ch : Nat → Nat} (h : TV A m ch) : ∀ j i, i + j < m → ch i + j ≤ ch (i + j) := by
  intro j
  induction j with
  | zero => intro i _; exact Nat.le_refl _
  | succ j ih =>
    intro i hi
    have h1 := ih i (by omega)
    have h2 := h.1 (i + j) (by omega)
    rw [show i + (j + 1) = i + j + 1 by omega]
    omega
theorem plF_n {A m : Nat} {ch : Nat → Nat} : ∀ j, plF A m ch j = none → ∀ k, k < j → ch k = A - m + k := by
  intro j
  induction j with
  | zero => intro _ k hk; omega
  | succ j ih =>
    intro h k hk
    unfold plF at h
    split at h
    · rename_i e
      by_cases ek : k = j
      · rw [ek]; exact e
      · exact ih h k (by omega)
    · cases h
theorem plF_l {A m : Nat} {ch : Nat → Nat} : ∀ j p, plF A m ch j = some p → ∀ k, p < k → k < j → ch k = A - m + k := by
  intro j
  induction j with
  | zero => intro p h; cases h
  | succ j ih =>
    intro p h k h1 h2
    unfold plF at h
    split at h
    · rename_i e
      by_cases ek : k = j
      · rw [ek]; exact e
      · exact ih p h k h1 (by omega)
    · cases h; omega
theorem nx_TV {A m p : Nat} {ch : Nat → Nat} (hm : m ≤ A) (h : TV A m ch) (hp : p < m) (hq : ch p ≠ A - m + p) : TV A m (nxC p ch) := by
  have hb := h.2 p hp
  constructor
  · intro i hi
    unfold nxC
    by_cases e : i + 1 < p
    · rw [if_pos (by omega), if_pos e]; exact h.1 i hi
    · by_cases e2 : i < p
      · rw [if_pos e2, if_neg e]
        have := h.1 i hi
        have e3 : i + 1 = p := by omega
        rw [e3] at this
        omega
      · rw [if_neg e2, if_neg (by omega)]; omega
  · intro k hk
    unfold nxC
    split
    · exact h.2 k hk
    · omega
/-- nothing lies between -/
theorem nx_min {A m p : Nat} {ch c2 : Nat → Nat} (hA : A ≤ 30) (hm : m ≤ A) (h : TV A m ch) (h2 : TV A m c2) (hp : plF A m ch m = some p) (hl : vlF ch m < vlF c2 m) : vlF (nxC p ch) m ≤ vlF c2 m := by
  obtain ⟨p1, p2⟩ := plF_s m p hp
  have pm := plF_l m p hp
  have nt := nx_TV hm h p1 p2
  have b30 : ∀ {x : Nat → Nat}, TV A m x → ∀ k, k < m → x k ≤ 30 := fun {x} hx k hk => by have := hx.2 k hk; omega
  rcases lex_tri ch c2 m with e | ⟨q, q1, q2, q3⟩
  · rw [vlF_c m e] at hl; omega
  · have ql : ch q < c2 q := by
      rcases Nat.lt_or_gt_of_ne q3 with z | z
      · exact z
      · have := vl_lex m q1 (fun i hi => (q2 i hi).symm) z (b30 h2)
        omega
    have qp : q ≤ p := by
      refine Nat.le_of_not_lt (fun z => ?_)
      have := pm q z q1
      have := h2.2 q q1
      omega
    by_cases e : q < p
    · refine Nat.le_of_lt (vl_lex m q1 (fun i hi => ?_) ?_ (b30 nt))
      · unfold nxC; rw [if_pos (by omega)]; exact q2 i hi
      · unfold nxC; rw [if_pos e]; exact ql
    · have eq : q = p := by omega
      subst eq
      by_cases e2 : ch q + 1 < c2 q
      · refine Nat.le_of_lt (vl_lex m q1 (fun i hi => ?_) ?_ (b30 nt))
        · unfold nxC; rw [if_pos hi]; exact q2 i hi
        · unfold nxC; rw [if_neg (by omega)]; omega
      · refine vl_mono m (fun k hk => ?_)
        unfold nxC
        by_cases ek : k < q
        · rw [if_pos ek, q2 k ek]; exact Nat.le_refl _
        · rw [if_neg ek]
          have := TV_r h2 (k - q) q (by omega)
          rw [show q + (k - q) = k by omega] at this
          omega
theorem fsE_min {w : Wo} {L : Nat → Nat} {m : Nat} (hA : w 0 0 * w 0 1 ≤ 30) (hm : m ≤ w 0 0 * w 0 1) : ∀ (n : Nat) (ch : Nat → Nat), TV (w 0 0 * w 0 1) m ch → 31 ^ m ≤ vlF ch m + n → (∀ b, fsE w L m n ch = some b → ∃ c2, TV (w 0 0 * w 0 1) m c2 ∧ gdC w L m c2 = true ∧ evB c2 m 0 0 = b ∧ ∀ c3, TV (w 0 0 * w 0 1) m c3 → gdC w L m c3 = true → vlF ch m ≤ vlF c3 m → vlF c2 m ≤ vlF c3 m) ∧ (fsE w L m n ch = none → ∀ c3, TV (w 0 0 * w 0 1) m c3 → vlF ch m ≤ vlF c3 m → gdC w L m c3 = false) := by
  have b30 : ∀ {x : Nat → Nat}, TV (w 0 0 * w 0 1) m x → ∀ k, k < m → x k ≤ 30 := fun {x} hx k hk => by have := hx.2 k hk; omega
  intro n
  induction n with
  | zero =>
    intro ch hc hf
    have := vlF_lt m (b30 hc)
    omega
  | succ n ih =>
    intro ch hc hf
    unfold fsE
    have sm : ∀ c3, TV (w 0 0 * w 0 1) m c3 → vlF ch m = vlF c3 m → ∀ k, k < m → ch k = c3 k := fun c3 h3 e => by
      rcases lex_tri ch c3 m with z | ⟨q, q1, q2, q3⟩
      · exact z
      · rcases Nat.lt_or_gt_of_ne q3 with y | y
        · have := vl_lex m q1 q2 y (b30 hc); omega
        · have := vl_lex m q1 (fun i hi => (q2 i hi).symm) y (b30 h3); omega
    have gd_c : ∀ c3, (∀ k, k < m → ch k = c3 k) → gdC w L m c3 = gdC w L m ch := fun c3 e => by
      have eL : ∀ n k a, k + n ≤ m → evL L c3 n k a = evL L ch n k a := by
        intro n
        induction n with
        | zero => intro k a _; rfl
        | succ n ih => intro k a hk; rw [evL, evL, e k (by omega), ih (k + 1) _ (by omega)]
      have eR : ∀ n k b, k + n ≤ m → evR w c3 n k b = evR w ch n k b := by
        intro n
        induction n with
        | zero => intro k a _; rfl
        | succ n ih => intro k a hk; rw [evR, evR, e k (by omega), ih (k + 1) _ (by omega)]
      unfold gdC
      rw [eL m 0 0 (by omega), eR m 0 true (by omega)]
    by_cases g : gdC w L m ch = true
    · rw [if_pos g]
      exact ⟨fun b e => by cases e; exact ⟨ch, hc, g, rfl, fun c3 _ _ h => h⟩, fun e => by cases e⟩
    · rw [if_neg g]
      cases hp : plF (w 0 0 * w 0 1) m ch m with
      | none =>
        have pn := plF_n m hp
        refine ⟨(fun b e => by cases e), fun _ c3 h3 hle => ?_⟩
        have e3 : vlF c3 m ≤ vlF ch m := vl_mono m (fun k hk => by rw [pn k hk]; exact h3.2 k hk)
        rw [gd_c c3 (sm c3 h3 (by omega))]
        exact bnt g
      | some p =>
        obtain ⟨p1, p2⟩ := plF_s m p hp
        have nt := nx_TV hm hc p1 p2
        have nv := vlF_n (ch := ch) m p1 (b30 hc)
        obtain ⟨r1, r2⟩ := ih (nxC p ch) nt (by omega)
        have up : ∀ c3, TV (w 0 0 * w 0 1) m c3 → gdC w L m c3 = true → vlF ch m ≤ vlF c3 m → vlF (nxC p ch) m ≤ vlF c3 m := fun c3 h3 g3 hle => by
          refine nx_min hA hm hc h3 hp (Nat.lt_of_le_of_ne hle (fun e => g ?_))
          rw [← gd_c c3 (sm c3 h3 e)]
          exact g3
        refine ⟨fun b e => ?_, fun e c3 h3 hle => ?_⟩
        · obtain ⟨c2, a1, a2, a3, a4⟩ := r1 b e
          exact ⟨c2, a1, a2, a3, fun c3 h3 g3 hle => a4 c3 h3 g3 (up c3 h3 g3 hle)⟩
        · cases q : gdC w L m c3 with
          | false => rfl
          | true => rw [r2 e c3 h3 (up c3 h3 q hle)] at q; cases q
theorem fnd_min {w : Wo} {d r m : Nat} (hk : WOK d w) (hm : m ≤ 4) : (∀ b, fnd w r m = some b → ∃ c2, TV (w 0 0 * w 0 1) m c2 ∧ gdC w (lkA w r) m c2 = true ∧ evB c2 m 0 0 = b ∧ ∀ c3, TV (w 0 0 * w 0 1) m c3 → gdC w (lkA w r) m c3 = true → vlF c2 m ≤ vlF c3 m) ∧ (fnd w r m = none → ∀ c3, TV (w 0 0 * w 0 1) m c3 → gdC w (lkA w r) m c3 = false) := by
  have cc := cells_le hk
  have t0 : TV (w 0 0 * w 0 1) m (fun k => k) := ⟨fun i _ => Nat.lt_succ_self i, fun k hk => by show k ≤ _; omega⟩
  have f0 : 31 ^ m ≤ vlF (fun k => k) m + 923521 := Nat.le_trans (Nat.pow_le_pow_right (by decide) hm) (Nat.le_add_left _ _)
  have mn : ∀ c3, TV (w 0 0 * w 0 1) m c3 → vlF (fun k => k) m ≤ vlF c3 m := fun c3 h3 => vl_mono m (fun k hk => by
    have := TV_r h3 k 0 (by omega)
    rw [Nat.zero_add] at this
    omega)
  obtain ⟨r1, r2⟩ := fsE_min (L := lkA w r) cc.2 (by omega) 923521 _ t0 f0
  refine ⟨fun b e => ?_, fun e c3 h3 => r2 e c3 h3 (mn c3 h3)⟩
  obtain ⟨c2, a1, a2, a3, a4⟩ := r1 b e
  exact ⟨c2, a1, a2, a3, fun c3 h3 g3 => a4 c3 h3 g3 (mn c3 h3)⟩
/-- the class's road -/
def wLs (L : Nat → Nat) : Nat → Nat → Nat → Option Nat
  | 0, _, _ => none
  | n + 1, c, ms => if andn ms (L c) = 0 then some (2 ^ c) else wLs L n (c + 1) ms
