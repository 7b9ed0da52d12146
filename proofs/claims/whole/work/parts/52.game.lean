/-! THE GAME: caught within so many turns -/
def anS (w : Wo) (c : Nat) (P : Nat → Bool) : Nat → Nat → Bool
  | 0, _ => false
  | n + 1, s => (match stp w c s with | none => false | some t => P t) || anS w c P n (s + 1)
def alS (w : Wo) (c : Nat) (P : Nat → Bool) : Nat → Nat → Bool
  | 0, _ => true
  | n + 1, s => (match stp w c s with | none => true | some t => P t) && alS w c P n (s + 1)
def hd (w : Wo) (W : Nat → Nat → Bool) (to r : Nat) : Bool := decide (to = r) || alS w r (W to) 5 0
def wn (w : Wo) : Nat → Nat → Nat → Bool
  | 0, h, r => decide (h = r)
  | t + 1, h, r => wn w t h r || (fre w h && fre w r && anS w h (fun to => hd w (wn w t) to r) 5 0)
theorem anS_i (w : Wo) (c : Nat) (P : Nat → Bool) : ∀ n s, anS w c P n s = true ↔ ∃ k t, s ≤ k ∧ k < s + n ∧ stp w c k = some t ∧ P t = true := by
  intro n
  induction n with
  | zero => intro s; constructor
            · intro h; cases h
            · rintro ⟨k, t, a, b, -⟩; omega
  | succ n ih =>
    intro s
    unfold anS
    rw [Bool.or_eq_true, ih]
    constructor
    · rintro (h | ⟨k, t, a, b, c, e⟩)
      · cases hq : stp w c s with
        | none => rw [hq] at h; cases h
        | some t => rw [hq] at h; exact ⟨s, t, by omega, by omega, hq, h⟩
      · exact ⟨k, t, by omega, by omega, c, e⟩
    · rintro ⟨k, t, a, b, e, f⟩
      by_cases hk : k = s
      · subst hk; left; rw [e]; exact f
      · right; exact ⟨k, t, by omega, by omega, e, f⟩
theorem alS_i (w : Wo) (c : Nat) (P : Nat → Bool) : ∀ n s, alS w c P n s = true ↔ ∀ k t, s ≤ k → k < s + n → stp w c k = some t → P t = true := by
  intro n
  induction n with
  | zero => intro s; constructor
            · intro _ k t a b; omega
            · intro _; rfl
  | succ n ih =>
    intro s
    unfold alS
    rw [Bool.and_eq_true, ih]
    constructor
    · rintro ⟨h1, h2⟩ k t a b e
      by_cases hk : k = s
      · subst hk; rw [e] at h1; exact h1
      · exact h2 k t (by omega) (by omega) e
    · intro h
      refine ⟨?_, fun k t a b e => h k t (by omega) (by omega) e⟩
      cases hq : stp w c s with
      | none => rfl
      | some t => exact h s t (by omega) (by omega) hq
theorem wn_m {w : Wo} {t u h r : Nat} (htu : t ≤ u) (hw : wn w t h r = true) : wn w u h r = true := by
  induction u with
  | zero => have : t = 0 := by omega
            subst this; exact hw
  | succ u ih =>
    by_cases e : t = u + 1
    · subst e; exact hw
    · unfold wn; rw [ih (by omega)]; rfl
theorem hd_m {w : Wo} {t u to r : Nat} (htu : t ≤ u) (hw : hd w (wn w t) to r = true) : hd w (wn w u) to r = true := by
  unfold hd at *
  rw [Bool.or_eq_true] at *
  rcases hw with hw | hw
  · exact Or.inl hw
  · refine Or.inr ?_
    rw [alS_i] at *
    exact fun k t a b e => wn_m htu (hw k t a b e)
/-- when a turn brings nothing, no turn does -/
def stab (w : Wo) (t : Nat) : Prop := ∀ h r, h < w 0 0 * w 0 1 → r < w 0 0 * w 0 1 → wn w (t + 1) h r = true → wn w t h r = true
theorem wn_st {w : Wo} {t : Nat} (hs : stab w t) : ∀ n h r, h < w 0 0 * w 0 1 → r < w 0 0 * w 0 1 → wn w (t + n) h r = true → wn w t h r = true := by
  intro n
  induction n with
  | zero => intro h r _ _ z; exact z
  | succ n ih =>
    intro h r h1 r1 z
    have z : (wn w (t + n) h r || (fre w h && fre w r && anS w h (fun to => hd w (wn w (t + n)) to r) 5 0)) = true := z
    rw [Bool.or_eq_true, Bool.and_eq_true, Bool.and_eq_true] at z
    rcases z with z | ⟨⟨z1, z2⟩, z3⟩
    · exact ih h r h1 r1 z
    · refine hs h r h1 r1 ?_
      show (wn w t h r || (fre w h && fre w r && anS w h (fun to => hd w (wn w t) to r) 5 0)) = true
      rw [Bool.or_eq_true, Bool.and_eq_true, Bool.and_eq_true]
      refine Or.inr ⟨⟨z1, z2⟩, ?_⟩
      rw [anS_i] at z3 ⊢
      obtain ⟨k, to, a, b, e, f⟩ := z3
      refine ⟨k, to, a, b, e, ?_⟩
      unfold hd at f ⊢
      rw [Bool.or_eq_true] at f ⊢
      rcases f with f | f
      · exact Or.inl f
      · refine Or.inr ?_
        rw [alS_i] at f ⊢
        exact fun k2 t2 a2 b2 e2 => ih to t2 (fre_lt (stp_fre e)) (fre_lt (stp_fre e2)) (f k2 t2 a2 b2 e2)
/-- the first turn, up to turn T -/
def lw (w : Wo) (T h r : Nat) : Option Nat := fN (fun t => wn w t h r) (T + 1) 0
theorem fN_s (P : Nat → Bool) : ∀ n i v, fN P n i = some v ↔ i ≤ v ∧ v < i + n ∧ P v = true ∧ ∀ u, i ≤ u → u < v → P u = false := by
  intro n
  induction n with
  | zero => intro i v; constructor
            · intro h; cases h
            · rintro ⟨a, b, -⟩; omega
  | succ n ih =>
    intro i v
    unfold fN
    by_cases h : P i = true
    · rw [if_pos h]
      constructor
      · intro e; cases e; exact ⟨by omega, by omega, h, fun u a b => by omega⟩
      · rintro ⟨a, b, c, d⟩
        by_cases e : v = i
        · rw [e]
        · rw [d i (by omega) (by omega)] at h; cases h
    · rw [if_neg h, ih]
      constructor
      · rintro ⟨a, b, c, d⟩
        refine ⟨by omega, by omega, c, fun u a2 b2 => ?_⟩
        by_cases e : u = i
        · rw [e]; exact bnt h
        · exact d u (by omega) b2
      · rintro ⟨a, b, c, d⟩
        by_cases e : v = i
        · rw [e] at c; exact absurd c h
        · exact ⟨by omega, by omega, c, fun u a2 b2 => d u (by omega) b2⟩
theorem fN_n (P : Nat → Bool) : ∀ n i, fN P n i = none ↔ ∀ u, i ≤ u → u < i + n → P u = false := by
  intro n
  induction n with
  | zero => intro i; constructor
            · intro _ u a b; omega
            · intro _; rfl
  | succ n ih =>
    intro i
    unfold fN
    by_cases h : P i = true
    · rw [if_pos h]
      constructor
      · intro e; cases e
      · intro e; rw [e i (by omega) (by omega)] at h; cases h
    · rw [if_neg h, ih]
      constructor
      · intro e u a b
        by_cases z : u = i
        · rw [z]; exact bnt h
        · exact e u (by omega) (by omega)
      · intro e u a b; exact e u (by omega) (by omega)
theorem lw_le {w : Wo} {T t h r : Nat} (ht : t ≤ T) : (∃ v, lw w T h r = some v ∧ v ≤ t) ↔ wn w t h r = true := by
  constructor
  · rintro ⟨v, e, hv⟩
    exact wn_m hv ((fN_s _ _ _ _).mp e).2.2.1
  · intro hw
    cases hq : lw w T h r with
    | none =>
      have := (fN_n _ _ _).mp hq t (by omega) (by omega)
      rw [hw] at this
      cases this
    | some v =>
      refine ⟨v, rfl, Nat.le_of_not_lt fun hlt => ?_⟩
      have := ((fN_s _ _ _ _).mp hq).2.2.2 t (by omega) hlt
      rw [hw] at this
      cases this
theorem lw_bd {w : Wo} {T h r v : Nat} (e : lw w T h r = some v) : v ≤ T := by
  have := ((fN_s _ _ _ _).mp e).2.1
  omega
theorem lw_same {w : Wo} {T T2 h r : Nat} (a : wn w T h r = true) (hT : T ≤ T2) : lw w T2 h r = lw w T h r := by
  obtain ⟨v, e, hv⟩ := (lw_le (Nat.le_refl T)).mpr a
  rw [e]
  have := (fN_s _ _ _ _).mp e
  exact (fN_s _ _ _ _).mpr ⟨by omega, by omega, this.2.2.1, this.2.2.2⟩
theorem lw_none {w : Wo} {T h r : Nat} (a : wn w T h r = false) : lw w T h r = none := by
  refine (fN_n _ _ _).mpr fun u _ hu => ?_
  cases hq : wn w u h r with
  | false => rfl
  | true => rw [wn_m (show u ≤ T by omega) hq] at a; cases a
theorem lwn_new {w : Wo} {T h r : Nat} (a : wn w T h r = false) (b : wn w (T + 1) h r = true) : lw w (T + 1) h r = some (T + 1) := by
  refine (fN_s _ _ _ _).mpr ⟨by omega, by omega, b, fun u _ hu => ?_⟩
  cases hq : wn w u h r with
  | false => rfl
  | true => rw [wn_m (show u ≤ T by omega) hq] at a; cases a
/-- the worst of the hare's steps -/
def wsF (w : Wo) (r : Nat) (g : Nat → Option Nat) : Nat → Nat → Nat → Option Nat
  | 0, _, a => some a
  | n + 1, s, a => match stp w r s with
    | none => wsF w r g n (s + 1) a
    | some t => match g t with
      | none => none
      | some v => wsF w r g n (s + 1) (if a < v then v else a)
def wst (w : Wo) (to r : Nat) (g : Nat → Option Nat) : Option Nat := if to = r then some 0 else wsF w r g 5 0 0
theorem wsF_le (w : Wo) (r T : Nat) (g : Nat → Option Nat) : ∀ n s a, a ≤ T → ((∃ v, wsF w r g n s a = some v ∧ v ≤ T) ↔ ∀ k t, s ≤ k → k < s + n → stp w r k = some t → ∃ v, g t = some v ∧ v ≤ T) := by
  intro n
  induction n with
  | zero =>
    intro s a ha
    constructor
    · intro _ k t a b; omega
    · intro _; exact ⟨a, rfl, ha⟩
  | succ n ih =>
    intro s a ha
    unfold wsF
    cases hq : stp w r s with
    | none =>
      simp only
      rw [ih _ _ ha]
      constructor
      · intro h k t a b e
        by_cases z : k = s
        · subst z; rw [hq] at e; cases e
        · exact h k t (by omega) (by omega) e
      · intro h k t a b e; exact h k t (by omega) (by omega) e
    | some t =>
      simp only
      cases hg : g t with
      | none =>
        simp only
        constructor
        · rintro ⟨v, e, -⟩; cases e
        · intro h
          obtain ⟨v, e, -⟩ := h s t (by omega) (by omega) hq
          rw [hg] at e; cases e
      | some v =>
        simp only
        by_cases hv : v ≤ T
        · rw [ih _ _ (by split <;> omega)]
          constructor
          · intro h k t2 a b e
            by_cases z : k = s
            · subst z; rw [hq] at e; cases e; exact ⟨v, hg, hv⟩
            · exact h k t2 (by omega) (by omega) e
          · intro h k t2 a b e; exact h k t2 (by omega) (by omega) e
        · have hge : ∀ n s a u, wsF w r g n s a = some u → a ≤ u := by
            intro n
            induction n with
            | zero => intro s a u e; unfold wsF at e; cases e; omega
            | succ n ih2 =>
              intro s a u e
              unfold wsF at e
              split at e
              · exact ih2 _ _ _ e
              · split at e
                · cases e
                · have := ih2 _ _ _ e
                  split at this <;> omega
          constructor
          · rintro ⟨u, e, hu⟩
            have := hge _ _ _ _ e
            split at this <;> omega
          · intro h
            obtain ⟨v2, e, hv2⟩ := h s t (by omega) (by omega) hq
            rw [hg] at e; cases e
            exact absurd hv2 hv
/-- with values that are right up to turn T, and no other value up to T -/
theorem wst_hd {w : Wo} {T to r : Nat} {g : Nat → Option Nat} (hg : ∀ t, fre w t = true → ((∃ v, g t = some v ∧ v ≤ T) ↔ wn w T to t = true)) : (∃ v, wst w to r g = some v ∧ v ≤ T) ↔ hd w (wn w T) to r = true := by
  unfold wst hd
  by_cases e : to = r
  · rw [if_pos e]
    simp [e]
  · rw [if_neg e, wsF_le w r T g 5 0 0 (by omega), Bool.or_eq_true, alS_i]
    constructor
    · intro h
      exact Or.inr fun k t a b c => (hg t (stp_fre c)).mp (h k t a b c)
    · rintro (h | h)
      · exact absurd (of_decide_eq_true h) e
      · exact fun k t a b c => (hg t (stp_fre c)).mpr (h k t a b c)
