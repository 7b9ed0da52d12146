/-! THE REFERENCE: a day -/
theorem cl_l {a : Nat} (ha : a < 2 ^ 31) : ((5 : Int32) ≤ nI a) = (5 ≤ a) ∧ ((6 : Int32) ≤ nI a) = (6 ≤ a) ∧ ((4 : Int32) ≤ nI a) = (4 ≤ a) ∧ ((30 : Int32) ≤ nI a) = (30 ≤ a) ∧ ((60 : Int32) < nI a) = (60 < a) ∧ ((900 : Int32) ≤ nI a) = (900 ≤ a) ∧ ((650 : Int32) ≤ nI a) = (650 ≤ a) ∧ ((80 : Int32) ≤ nI a) = (80 ≤ a) ∧ ((12 : Int32) ≤ nI a) = (12 ≤ a) :=
  ⟨nl_le (by decide) ha, nl_le (by decide) ha, nl_le (by decide) ha, nl_le (by decide) ha, nl_lt (by decide) ha, nl_le (by decide) ha, nl_le (by decide) ha, nl_le (by decide) ha, nl_le (by decide) ha⟩
theorem nl_inc (a : Nat) : nI a + 1 = nI (a + 1) := by rw [show (1 : Int32) = nI 1 from rfl, nI_add]
theorem dif_le (a b : Nat) : dif a b ≤ a + b := by unfold dif; omega
theorem way_lt {w : Wo} {d a b : Nat} (hk : WOK d w) (ha : a < 1000) (hb : b < 1000) : way w a b < 4000 := by
  have h1 := dif_le (a / w 0 1) (b / w 0 1)
  have h2 := dif_le (a % w 0 1) (b % w 0 1)
  have := Nat.div_le_self a (w 0 1)
  have := Nat.div_le_self b (w 0 1)
  have := Nat.mod_le a (w 0 1)
  have := Nat.mod_le b (w 0 1)
  unfold way
  omega
theorem oI_s (k : Nat) : oI (some k) = nI k := rfl
theorem oI_n : oI none = -1 := rfl
theorem m10 : ((-1 : Int32) < 0) = True := by simp only [eq_iff_iff, iff_true]; decide
theorem m_hunts_l (p aim : Nat) (h : Hp) (w : Wo) (d : Nat) (hW : MW h) (hw : MS h w) (hk : WOK d w) (hd : d ≤ 129) (hp : p < w 0 3) (ha : aim < 1000) : ∀ (n s : Nat) (b : Option (Nat × Nat)) (l6 l7 l8 : Option AV), s + n = 5 → (∀ x, b = some x → x.1 < 5 ∧ x.2 < 4000) →
    run 3 1212 8 [some (vo (some (44, 12, 0))), some (vi (nI p)), some (vi (nI aim)), some (vi (oI (b.map Prod.fst))), some (vi (nI ((b.map Prod.snd).getD 0))), some (vi (nI s)), l6, l7, l8] [] h = some (some (vi (oI ((huF w (cel w p) aim n s b).map Prod.fst))), h) := by
  have hcel := m_cellOf p h w d hW hw hk hd hp
  have hc30 := fre_lt (cel_fre hk hp)
  intro n
  induction n with
  | zero =>
    intro s b l6 l7 l8 hs hb
    have hs5 : s = 5 := by omega
    subst hs5
    rw [x_1212_8]
    simp (disch := omega) only [x_1212, xs, (cl_l _).1, Nat.le_refl]
    rfl
  | succ n ih =>
    intro s b l6 l7 l8 hs hb
    have hst := m_stepFrom (cel w p) s h w d hw hk hc30 (by omega)
    have h5 : (5 ≤ s) = False := by simp; omega
    rw [x_1212_8]
    unfold huF
    cases hq : stp w (cel w p) s with
    | none =>
      simp (disch := omega) only [x_1212, xs, (cl_l _).1, hcel, hst, h5, hq, oI_n, nl_inc, m10]
      exact ih (s + 1) b _ _ _ (by omega) hb
    | some t =>
      have ht := stp_lt hk hq
      have hwl := way_lt hk (a := t) (b := aim) (by omega) ha
      have hway := m_way t aim h w d hw hk (by omega) (by omega)
      cases b with
      | none =>
        simp (disch := omega) only [x_1212, xs, (cl_l _).1, hcel, hst, h5, hq, oI_s, oI_n, nl_l0, hway, Option.map_none, i10, nl_inc, m10]
        exact ih (s + 1) (some (s, way w t aim)) _ _ _ (by omega) (fun x hx => by cases hx; exact ⟨by omega, hwl⟩)
      | some x =>
        obtain ⟨bs, bl⟩ := x
        obtain ⟨hb1, hb2⟩ := hb _ rfl
        simp only at hb1 hb2
        by_cases hl : way w t aim < bl
        · have hl2 : ¬ bl ≤ way w t aim := by omega
          simp (disch := omega) only [x_1212, xs, (cl_l _).1, hcel, hst, h5, hq, oI_s, nl_l0, hway, Option.map_some, Option.getD_some, i10, nl_inc, nl_le, hl, hl2]
          exact ih (s + 1) (some (s, way w t aim)) _ _ _ (by omega) (fun x hx => by cases hx; exact ⟨by omega, hwl⟩)
        · have hl2 : bl ≤ way w t aim := by omega
          simp (disch := omega) only [x_1212, xs, (cl_l _).1, hcel, hst, h5, hq, oI_s, nl_l0, hway, Option.map_some, Option.getD_some, i10, nl_inc, nl_le, hl, hl2]
          exact ih (s + 1) (some (bs, bl)) _ _ _ (by omega) (fun x hx => by cases hx; exact ⟨hb1, hb2⟩)
/-- what the choice gives is a step that can be made -/
theorem huF_ok (w : Wo) (c aim : Nat) : ∀ (n s : Nat) (b : Option (Nat × Nat)), s + n = 5 → (∀ x, b = some x → x.1 < 5 ∧ ∃ t, stp w c x.1 = some t) → ((∃ t, stp w c 4 = some t) ∧ 0 < n ∨ b ≠ none) → ∃ x, huF w c aim n s b = some x ∧ x.1 < 5 ∧ ∃ t, stp w c x.1 = some t := by
  intro n
  induction n with
  | zero =>
    intro s b hs hb hn
    cases b with
    | none => exact absurd rfl (hn.resolve_left (fun z => absurd z.2 (by omega)))
    | some x => exact ⟨x, rfl, hb x rfl⟩
  | succ n ih =>
    intro s b hs hb hn
    unfold huF
    cases hq : stp w c s with
    | none =>
      refine ih (s + 1) b (by omega) hb ?_
      rcases hn with ⟨⟨t, ht⟩, -⟩ | hn
      · refine Or.inl ⟨⟨t, ht⟩, ?_⟩
        rcases Nat.eq_zero_or_pos n with h0 | h0
        · have : s = 4 := by omega
          subst this
          rw [hq] at ht
          cases ht
        · exact h0
      · exact Or.inr hn
    | some t =>
      have hx : ∀ (l : Nat) (x : Nat × Nat), some (s, l) = some x → x.1 < 5 ∧ ∃ t, stp w c x.1 = some t := fun l x hx => by
        cases hx
        exact ⟨by omega, t, hq⟩
      cases b with
      | none => exact ih (s + 1) _ (by omega) (hx _) (Or.inr (by simp))
      | some x =>
        obtain ⟨bs, bl⟩ := x
        simp only
        split
        · exact ih (s + 1) _ (by omega) (hx _) (Or.inr (by simp))
        · exact ih (s + 1) _ (by omega) hb (Or.inr (by simp))
theorem sHunt_ok {w : Wo} {d p : Nat} (hk : WOK d w) (hp : p < w 0 3) (aim : Nat) : ∃ l, huF w (cel w p) aim 5 0 none = some (sHunt w p aim, l) ∧ sHunt w p aim < 5 ∧ ∃ t, stp w (cel w p) (sHunt w p aim) = some t := by
  obtain ⟨⟨s, l⟩, h1, h2, h3⟩ := huF_ok w (cel w p) aim 5 0 none rfl (fun x hx => by cases hx) (Or.inl ⟨⟨_, stp_stay (cel_fre hk hp) (Nat.le_refl 4)⟩, by decide⟩)
  have e : sHunt w p aim = s := by unfold sHunt; rw [h1]
  rw [e]
  exact ⟨l, h1, h2, h3⟩
theorem m_hunts (p aim : Nat) (h : Hp) (w : Wo) (d : Nat) (hW : MW h) (hw : MS h w) (hk : WOK d w) (hd : d ≤ 129) (hp : p < w 0 3) (ha : aim < 1000) : call 1212 [vo (some (44, 12, 0)), vi (nI p), vi (nI aim)] h = some (some (vi (nI (sHunt w p aim))), h) := by
  have hl := m_hunts_l p aim h w d hW hw hk hd hp ha 5 0 none none none none rfl (fun x hx => by cases hx)
  obtain ⟨l, h1, -⟩ := sHunt_ok hk hp aim
  rw [h1] at hl
  simp only [e_1212, x_1212]
  exact hl
