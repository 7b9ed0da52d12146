/-! THE REFERENCE: a day, further -/
theorem dd1 {a b : Nat} (ha : a < 2 ^ 30) (hb : b < 2 ^ 30) : nI a - nI b = nI (a - b) ∨ (nI a - nI b < 0 ∧ a - b = 0) := by
  by_cases h : b ≤ a
  · left; rw [pk_sub h]
  · right
    refine ⟨?_, by omega⟩
    rw [Int32.lt_iff_toInt_lt, pk_sub_toInt (by omega) (by omega)]
    simp only [show (0 : Int32).toInt = 0 from rfl]
    omega
theorem dd2 (a b : Nat) : nI a - nI b - 1 = nI a - nI (b + 1) := by
  rw [← nl_inc, Int32.sub_sub]
theorem m_ago (p k : Nat) (h : Hp) (w : Wo) (d : Nat) (hW : MW h) (hw : MS h w) (hk : WOK d w) (hd : d ≤ 129) (hp : p < w 0 3) (hk4 : k ≤ 4) : call 1209 [vo (some (44, 12, 0)), vi (nI p), vi (nI (w 0 5) - nI k)] h = some (some (vi (nI (ago w p k))), h) := by
  have k5 := hk.2.2.2.2.2.1
  exact m_wasOn p _ (w 0 5 - k) h w d hW hw hk hd hp (by omega) (dd1 (by omega) (by omega))
theorem ago_lt {w : Wo} {d p k : Nat} (hk : WOK d w) (hp : p < w 0 3) : ago w p k < w 0 0 * w 0 1 := fre_lt ((hk.2.2.2.2.2.2 p hp).2.2.2.2.2.1 _ (by omega))
theorem leF_le (w : Wo) (p to : Nat) : ∀ n o a, leF w p to n o a ≤ a := by
  intro n
  induction n with
  | zero => intro o a; exact Nat.le_refl _
  | succ n ih =>
    intro o a
    unfold leF
    split
    · exact ih _ _
    · refine Nat.le_trans (ih _ _) ?_
      split <;> omega
def leO (w : Wo) (p n o a : Nat) (to : Option Nat) : Nat := match to with
  | none => 99
  | some t => leF w p t n o a
theorem m_flees_i (p : Nat) (h : Hp) (w : Wo) (d : Nat) (hW : MW h) (hw : MS h w) (hk : WOK d w) (hd : d ≤ 129) (hp : p < w 0 3) (l2 l3 l4 : Option AV) (to : Option Nat) (hto : ∀ t, to = some t → t < 30) : ∀ (n o a : Nat) (l8 : Option AV), o + n = w 0 3 → (a ≤ 99 ∧ (to = none → a = 99)) → ∃ l9 : Option AV,
    run 3 1213 33 [some (vo (some (44, 12, 0))), some (vi (nI p)), l2, l3, l4, some (vi (oI to)), some (vi (nI a)), some (vi (nI o)), l8] [] h = run 3 1213 103 [some (vo (some (44, 12, 0))), some (vi (nI p)), l2, l3, l4, some (vi (oI to)), some (vi (nI (leO w p n o a to))), some (vi (nI (w 0 3))), l9] [] h := by
  have k3 := hk.2.2.2.1
  have hc := cells_le hk
  obtain ⟨-, -, -, f3, f4, f5⟩ := hw.1
  intro n
  induction n with
  | zero =>
    intro o a l8 ho ha
    have : o = w 0 3 := by omega
    subst this
    refine ⟨l8, ?_⟩
    rw [x_1213_33]
    simp (disch := omega) only [x_1213, xs, f3, nl_le, Nat.le_refl]
    cases to with
    | none => rw [ha.2 rfl]; rfl
    | some t => rfl
  | succ n ih =>
    intro o a l8 ho ha
    have h3 : (w 0 3 ≤ o) = False := by simp; omega
    rw [x_1213_33]
    cases to with
    | none =>
      have ha := ha.2 rfl
      subst ha
      have e99 : nI 99 = 99 := rfl
      obtain ⟨l9, h9⟩ := ih (o + 1) 99 (some (vi 99)) (by omega) ⟨by omega, fun _ => rfl⟩
      refine ⟨l9, ?_⟩
      simp only [leO] at h9 ⊢
      rw [← h9]
      by_cases hop : o = p
      · subst hop
        simp (disch := omega) only [x_1213, xs, f3, nl_le, h3, oI_n, nl_inc, e99, Int32.le_refl]
      · simp (disch := omega) only [x_1213, xs, f3, nl_le, h3, nl_eq, hop, oI_n, nl_inc, e99, show ((0 : Int32) ≤ -1) = False by simp only [eq_iff_iff, iff_false]; decide, Int32.le_refl]
    | some t =>
      have ht := hto t rfl
      have ha := ha.1
      have e99 : (99 : Int32) = nI 99 := rfl
      by_cases hop : o = p
      · subst hop
        obtain ⟨l9, h9⟩ := ih (o + 1) a (some (vi (nI 99))) (by omega) ⟨ha, fun z => by cases z⟩
        refine ⟨l9, ?_⟩
        simp only [leO] at h9 ⊢
        unfold leF
        rw [if_pos rfl, ← h9]
        simp (disch := omega) only [x_1213, xs, f3, nl_le, h3, oI_s, nl_inc, e99, ha]
      · have hag := m_ago o (w 0 4) h w d hW hw hk hd (by omega) (by have := hk.2.2.2.2.1; omega)
        have hagl := ago_lt (k := w 0 4) hk (show o < w 0 3 by omega)
        have hway := m_way t (ago w o (w 0 4)) h w d hw hk (by omega) (by omega)
        have hwl := way_lt hk (a := t) (b := ago w o (w 0 4)) (by omega) (by omega)
        by_cases hl : way w t (ago w o (w 0 4)) < a
        · have hl2 : ¬ a ≤ way w t (ago w o (w 0 4)) := by omega
          obtain ⟨l9, h9⟩ := ih (o + 1) (way w t (ago w o (w 0 4))) (some (vi (nI (way w t (ago w o (w 0 4)))))) (by omega) ⟨by omega, fun z => by cases z⟩
          refine ⟨l9, ?_⟩
          simp only [leO] at h9 ⊢
          unfold leF
          rw [if_neg hop, if_pos hl, ← h9]
          simp (disch := omega) only [x_1213, xs, f3, f4, f5, nl_le, h3, nl_eq, hop, oI_s, nl_g0, hag, hway, nl_inc, hl2]
        · have hl2 : a ≤ way w t (ago w o (w 0 4)) := by omega
          obtain ⟨l9, h9⟩ := ih (o + 1) a (some (vi (nI (way w t (ago w o (w 0 4)))))) (by omega) ⟨ha, fun z => by cases z⟩
          refine ⟨l9, ?_⟩
          simp only [leO] at h9 ⊢
          unfold leF
          rw [if_neg hop, if_neg hl, ← h9]
          simp (disch := omega) only [x_1213, xs, f3, f4, f5, nl_le, h3, nl_eq, hop, oI_s, nl_g0, hag, hway, nl_inc, hl2]
theorem m_flees_l (p : Nat) (h : Hp) (w : Wo) (d : Nat) (hW : MW h) (hw : MS h w) (hk : WOK d w) (hd : d ≤ 129) (hp : p < w 0 3) : ∀ (n s : Nat) (b : Option (Nat × Nat)) (l5 l6 l7 l8 : Option AV), s + n = 5 → (∀ x, b = some x → x.1 < 5 ∧ x.2 < 4000) →
    run 3 1213 7 [some (vo (some (44, 12, 0))), some (vi (nI p)), some (vi (oI (b.map Prod.fst))), some (vi (nI ((b.map Prod.snd).getD 0))), some (vi (nI s)), l5, l6, l7, l8] [] h = some (some (vi (oI ((flF w p n s b).map Prod.fst))), h) := by
  have hcel := m_cellOf p h w d hW hw hk hd hp
  have hc30 := fre_lt (cel_fre hk hp)
  have k3 := hk.2.2.2.1
  intro n
  induction n with
  | zero =>
    intro s b l5 l6 l7 l8 hs hb
    have hs5 : s = 5 := by omega
    subst hs5
    rw [x_1213_7]
    simp (disch := omega) only [x_1213, xs, (cl_l _).1, Nat.le_refl]
    rfl
  | succ n ih =>
    intro s b l5 l6 l7 l8 hs hb
    have hst := m_stepFrom (cel w p) s h w d hw hk hc30 (by omega)
    have h5 : (5 ≤ s) = False := by simp; omega
    have e99 : (99 : Int32) = nI 99 := rfl
    have e0 : (some (vi (0 : Int32)) : Option AV) = some (vi (nI 0)) := rfl
    have hto : ∀ t, stp w (cel w p) s = some t → t < 30 := fun t ht => stp_lt hk ht
    obtain ⟨l9, hin⟩ := m_flees_i p h w d hW hw hk hd hp (some (vi (oI (b.map Prod.fst)))) (some (vi (nI ((b.map Prod.snd).getD 0)))) (some (vi (nI s))) (stp w (cel w p) s) hto (w 0 3) 0 99 l8 (by omega) ⟨by omega, fun _ => rfl⟩
    rw [x_1213_7]
    simp (disch := omega) only [x_1213, xs, (cl_l _).1, hcel, hst, h5, e99]
    rw [e0, hin]
    unfold flF
    cases hq : stp w (cel w p) s with
    | none =>
      simp (disch := omega) only [x_1213, xs, oI_n, nl_inc, m10, leO]
      exact ih (s + 1) b _ _ _ _ (by omega) hb
    | some t =>
      have hl := leF_le w p t (w 0 3) 0 99
      have ht30 := hto t hq
      cases b with
      | none =>
        simp (disch := omega) only [x_1213, xs, leO, oI_s, oI_n, nl_l0, Option.map_none, i10, nl_inc, m10]
        exact ih (s + 1) (some (s, leF w p t (w 0 3) 0 99)) _ _ _ _ (by omega) (fun x hx => by cases hx; exact ⟨by omega, by omega⟩)
      | some x =>
        obtain ⟨bs, bl⟩ := x
        obtain ⟨hb1, hb2⟩ := hb _ rfl
        simp only at hb1 hb2
        by_cases hll : bl < leF w p t (w 0 3) 0 99
        · have hl2 : ¬ leF w p t (w 0 3) 0 99 ≤ bl := by omega
          simp (disch := omega) only [x_1213, xs, leO, oI_s, nl_l0, Option.map_some, Option.getD_some, i10, nl_inc, nl_le, hll, hl2]
          exact ih (s + 1) (some (s, leF w p t (w 0 3) 0 99)) _ _ _ _ (by omega) (fun x hx => by cases hx; exact ⟨by omega, by omega⟩)
        · have hl2 : leF w p t (w 0 3) 0 99 ≤ bl := by omega
          simp (disch := omega) only [x_1213, xs, leO, oI_s, nl_l0, Option.map_some, Option.getD_some, i10, nl_inc, nl_le, hll, hl2]
          exact ih (s + 1) (some (bs, bl)) _ _ _ _ (by omega) (fun x hx => by cases hx; exact ⟨hb1, hb2⟩)
theorem flF_ok (w : Wo) (p : Nat) : ∀ (n s : Nat) (b : Option (Nat × Nat)), s + n = 5 → (∀ x, b = some x → x.1 < 5 ∧ ∃ t, stp w (cel w p) x.1 = some t) → ((∃ t, stp w (cel w p) 4 = some t) ∧ 0 < n ∨ b ≠ none) → ∃ x, flF w p n s b = some x ∧ x.1 < 5 ∧ ∃ t, stp w (cel w p) x.1 = some t := by
  intro n
  induction n with
  | zero =>
    intro s b hs hb hn
    cases b with
    | none => exact absurd rfl (hn.resolve_left (fun z => absurd z.2 (by omega)))
    | some x => exact ⟨x, rfl, hb x rfl⟩
  | succ n ih =>
    intro s b hs hb hn
    unfold flF
    cases hq : stp w (cel w p) s with
    | none =>
      refine ih (s + 1) b (by omega) hb ?_
      rcases hn with ⟨⟨t, ht⟩, -⟩ | hn
      · refine Or.inl ⟨⟨t, ht⟩, ?_⟩
        rcases Nat.eq_zero_or_pos n with h0 | h0
        · have : s = 4 := by omega
          subst this
          rw [hq] at ht
          cases ht
        · exact h0
      · exact Or.inr hn
    | some t =>
      have hx : ∀ (l : Nat) (x : Nat × Nat), some (s, l) = some x → x.1 < 5 ∧ ∃ t, stp w (cel w p) x.1 = some t := fun l x hx => by
        cases hx
        exact ⟨by omega, t, hq⟩
      cases b with
      | none => exact ih (s + 1) _ (by omega) (hx _) (Or.inr (by simp))
      | some x =>
        obtain ⟨bs, bl⟩ := x
        simp only
        split
        · exact ih (s + 1) _ (by omega) (hx _) (Or.inr (by simp))
        · exact ih (s + 1) _ (by omega) hb (Or.inr (by simp))
theorem sFlee_ok {w : Wo} {d p : Nat} (hk : WOK d w) (hp : p < w 0 3) : ∃ l, flF w p 5 0 none = some (sFlee w p, l) ∧ sFlee w p < 5 ∧ ∃ t, stp w (cel w p) (sFlee w p) = some t := by
  obtain ⟨⟨s, l⟩, h1, h2, h3⟩ := flF_ok w p 5 0 none rfl (fun x hx => by cases hx) (Or.inl ⟨⟨_, stp_stay (cel_fre hk hp) (Nat.le_refl 4)⟩, by decide⟩)
  have e : sFlee w p = s := by unfold sFlee; rw [h1]
  rw [e]
  exact ⟨l, h1, h2, h3⟩
theorem m_flees (p : Nat) (h : Hp) (w : Wo) (d : Nat) (hW : MW h) (hw : MS h w) (hk : WOK d w) (hd : d ≤ 129) (hp : p < w 0 3) : call 1213 [vo (some (44, 12, 0)), vi (nI p)] h = some (some (vi (nI (sFlee w p))), h) := by
  have hl := m_flees_l p h w d hW hw hk hd hp 5 0 none none none none none rfl (fun x hx => by cases hx)
  obtain ⟨l, h1, -⟩ := sFlee_ok hk hp
  rw [h1] at hl
  simp only [e_1213, x_1213]
  exact hl
def heldI (v m : Int32) : Int32 := if 0 ≤ v then (if v < m then v else m - 1) else 0
theorem m_held (v m : Int32) (h : Hp) : call 1214 [vi v, vi m] h = some (some (vi (heldI v m)), h) := by
  unfold heldI
  simp only [e_1214, x_1214]
  split
  · split <;> rfl
  · rfl
theorem onw0 : ((List.range 6).all fun a => (List.range 6).all fun b => (List.range 4).all fun d => (List.range 7).all fun n => n == 0 || heldI (nI b + nI d * (nI b - nI a)) (nI n) == nI (onw a b d n)) = true := by decide +kernel
theorem onwI {a b d n : Nat} (ha : a < 6) (hb : b < 6) (hd : d < 4) (hn : n < 7) (h0 : n ≠ 0) : heldI (nI b + nI d * (nI b - nI a)) (nI n) = nI (onw a b d n) := by
  have g1 := List.all_eq_true.mp onw0 a (List.mem_range.mpr ha)
  have g2 := List.all_eq_true.mp g1 b (List.mem_range.mpr hb)
  have g3 := List.all_eq_true.mp g2 d (List.mem_range.mpr hd)
  have g4 := List.all_eq_true.mp g3 n (List.mem_range.mpr hn)
  simpa [h0] using g4
theorem onw_lt {a b d n : Nat} (h0 : n ≠ 0) : onw a b d n < n := by
  unfold onw
  split
  · omega
  · split <;> omega
theorem nl_rem2 {a d : Nat} (ha : a < 2 ^ 31) (h0 : 0 < d) (hd : d < 2 ^ 31) : nI a - nI (a / d * d) = nI (a % d) := by
  rw [← pk_mul]
  exact nl_rem ha h0 hd
theorem m_reckoned (q : Nat) (h : Hp) (w : Wo) (d : Nat) (hW : MW h) (hw : MS h w) (hk : WOK d w) (hd : d ≤ 129) (hq : q < w 0 3) : call 1215 [vo (some (44, 12, 0)), vi (nI q)] h = some (some (vi (nI (sReck w q))), h) := by
  have k4 := hk.2.2.2.2.1
  have hr := hk.1
  have hcl := hk.2.1
  obtain ⟨f0, f1, -, -, f4, f5⟩ := hw.1
  have a1 := m_ago q (w 0 4) h w d hW hw hk hd hq (by omega)
  have a2 := m_ago q (w 0 4 + 1) h w d hW hw hk hd hq (by omega)
  have hs := ago_lt (k := w 0 4) hk hq
  have ha := ago_lt (k := w 0 4 + 1) hk hq
  have hcc := cells_le hk
  have hC : ¬ nI (w 0 1) = 0 := by rw [nl_e0 (by omega)]; omega
  have d1 : ago w q (w 0 4) / w 0 1 < 6 := Nat.lt_of_lt_of_le (Nat.div_lt_of_lt_mul (by rw [Nat.mul_comm]; exact hs)) (by omega)
  have d2 : ago w q (w 0 4 + 1) / w 0 1 < 6 := Nat.lt_of_lt_of_le (Nat.div_lt_of_lt_mul (by rw [Nat.mul_comm]; exact ha)) (by omega)
  have d3 : ago w q (w 0 4) % w 0 1 < 6 := Nat.lt_of_lt_of_le (Nat.mod_lt _ (by omega)) (by omega)
  have d4 : ago w q (w 0 4 + 1) % w 0 1 < 6 := Nat.lt_of_lt_of_le (Nat.mod_lt _ (by omega)) (by omega)
  simp (disch := omega) only [e_1215, x_1215, xs, f0, f1, f4, f5, dd2, a1, a2, hC, m_held, pk_div, nl_rem, nl_rem2, pk_rem, onwI, pk_mul, nI_add]
  rfl
theorem sReck_lt {w : Wo} {d q : Nat} (hk : WOK d w) : sReck w q < 1000 := by
  unfold sReck
  have h1 := onw_lt (a := ago w q (w 0 4 + 1) / w 0 1) (b := ago w q (w 0 4) / w 0 1) (d := w 0 4) (n := w 0 0) (by have := hk.1; omega)
  have h2 := onw_lt (a := ago w q (w 0 4 + 1) % w 0 1) (b := ago w q (w 0 4) % w 0 1) (d := w 0 4) (n := w 0 1) (by have := hk.2.1; omega)
  have h3 := hk.1
  have h4 := hk.2.1
  have : onw (ago w q (w 0 4 + 1) / w 0 1) (ago w q (w 0 4) / w 0 1) (w 0 4) (w 0 0) * w 0 1 ≤ 5 * 6 := Nat.mul_le_mul (by omega) (by omega)
  omega
