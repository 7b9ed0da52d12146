/-! BOTH SIDES: what a call leaves -/
/-- no reference leads beyond what is made, and beyond it there is none -/
def VV (h : Hp) : Prop := (∀ i j r, hR h i j = some r → r.1 < h.1.1) ∧ ∀ i j, h.1.1 ≤ i → hR h i j = none
def bel (h : Hp) (i : Nat) : Prop := i < h.1.1
theorem VV_R {h : Hp} {o b : Nat} {x : Option Rf} (hv : VV h) (ho : o < h.1.1) (hx : fr_v (bel h) (vo x)) : VV (hsR h o b x) := by
  refine ⟨fun i j r hr => ?_, fun i j hi => ?_⟩
  · rw [hR_hsR] at hr
    split at hr
    · exact hx r (by rw [hr])
    · exact hv.1 i j r hr
  · rw [hR_hsR, if_neg (fun z => by have hi : h.1.1 ≤ i := hi; omega)]
    exact hv.2 i j hi
theorem VV_mk {h : Hp} {w : Nat} (hv : VV h) : VV (hmk h w) := by
  refine ⟨fun i j r hr => ?_, fun i j hi => ?_⟩
  · rw [hR_hmk] at hr
    split at hr
    · cases hr
    · have := hv.1 i j r hr; show r.1 < h.1.1 + 1; omega
  · have hi : h.1.1 + 1 ≤ i := hi
    rw [hR_hmk]
    split
    · rfl
    · exact hv.2 i j (by omega)
theorem VV_mm {h : Hp} {n k : Nat} (hv : VV h) : VV (hmm h n k) := by
  refine ⟨fun i j r hr => ?_, fun i j hi => ?_⟩
  · rw [hR_hmm] at hr
    show r.1 < h.1.1 + 1 + n
    split at hr
    · split at hr
      · rename_i z; cases hr; show h.1.1 + 1 + j < _; omega
      · cases hr
    · have := hv.1 i j r hr; omega
  · have hi : h.1.1 + 1 + n ≤ i := hi
    rw [hR_hmm, if_pos (by omega), if_neg (by omega)]
theorem fr_lm {S T : Nat → Prop} {ls : Lc} (st : ∀ i, S i → T i) (h : fr_ls S ls) : fr_ls T ls := fun i v hv r hr => st _ (h i v hv r hr)
theorem fr_sm {S T : Nat → Prop} {s : List AV} (st : ∀ i, S i → T i) (h : fr_st S s) : fr_st T s := fun v hv r hr => st _ (h v hv r hr)
theorem nn_stp {pc : Nat} {i : Instr} {len a b c : Nat} {ls : Lc} {st : List AV} {h : Hp} {pc2 : Nat} {ls2 : Lc} {st2 : List AV} {h2 : Hp} (hs : am_stp pc i len a b c ls st h = some (.inl (pc2, ls2, st2, h2))) (hv : VV h) (hl : fr_ls (bel h) ls) (ht : fr_st (bel h) st) :
    VV h2 ∧ fr_ls (bel h2) ls2 ∧ fr_st (bel h2) st2 := by
  have mk : ∀ w, ∀ i, bel h i → bel (hmk h w) i := fun w i z => by show i < h.1.1 + 1; have : i < h.1.1 := z; omega
  have mm : ∀ n k, ∀ i, bel h i → bel (hmm h n k) i := fun n k i z => by show i < h.1.1 + 1 + n; have : i < h.1.1 := z; omega
  cases i <;> simp only [am_stp] at hs <;> (first | (cases hs; done) | (repeat' split at hs) <;> (first | (cases hs; done) | (simp only [am_nx, Option.some.injEq, Sum.inl.injEq, Prod.mk.injEq] at hs; obtain ⟨-, rfl, rfl, rfl⟩ := hs; first
    | exact ⟨hv, hl, ht⟩
    | exact ⟨hv, hl, fr_c fr_vi ht⟩
    | exact ⟨hv, hl, fr_c fr_vl ht⟩
    | exact ⟨hv, hl, fr_c fr_vn ht⟩
    | exact ⟨hv, hl, fr_t ht⟩
    | exact ⟨hv, hl, fr_t (fr_t ht)⟩
    | exact ⟨hv, hl, fr_c fr_vi (fr_t ht)⟩
    | exact ⟨hv, hl, fr_c fr_vi (fr_t (fr_t ht))⟩
    | exact ⟨hv, hl, fr_c fr_vl (fr_t ht)⟩
    | exact ⟨hv, hl, fr_c fr_vl (fr_t (fr_t ht))⟩
    | exact ⟨hv, hl, fr_c (fr_h ht) ht⟩
    | exact ⟨hv, hl, fr_c (fr_h ht) (fr_c (fr_h (fr_t ht)) ht)⟩
    | exact ⟨hv, hl, fr_c (hl _ _ (by assumption)) ht⟩
    | exact ⟨hv, fr_s1 hl (by assumption) (fr_h ht), fr_t ht⟩
    | exact ⟨hv, fr_s2 hl (by assumption) (fr_h ht), fr_t ht⟩
    | exact ⟨hv, fr_s1 hl (by assumption) fr_vi, ht⟩
    | exact ⟨hv, hl, fr_c (fun r hr => hv.1 _ _ r (by simpa using hr)) (fr_t ht)⟩
    | exact ⟨hv, hl, fr_c (fun r hr => hv.1 _ _ r (by simpa using hr)) (fr_t (fr_t ht))⟩
    | exact ⟨VV_R hv (fr_h (fr_t ht) _ rfl) (fr_h ht), hl, fr_t (fr_t ht)⟩
    | exact ⟨hv, hl, fr_t (fr_t (fr_t ht))⟩
    | exact ⟨VV_R hv (fr_h (fr_t (fr_t ht)) _ rfl) (fr_h ht), hl, fr_t (fr_t (fr_t ht))⟩
    | exact ⟨VV_mk hv, fr_lm (mk _) hl, fr_c (fr_vr (Nat.lt_succ_self _)) (fr_sm (mk _) ht)⟩
    | exact ⟨VV_mk hv, fr_lm (mk _) hl, fr_c (fr_vr (Nat.lt_succ_self _)) (fr_sm (mk _) (fr_t ht))⟩
    | exact ⟨VV_mm hv, fr_lm (mm _ _) hl, fr_c (fr_vr (show h.1.1 < h.1.1 + 1 + _ by omega)) (fr_sm (mm _ _) (fr_t (fr_t ht)))⟩
    | exact ⟨hv, hl, fr_t (fr_t (fr_t (fr_t (fr_t ht))))⟩)))
theorem ev_nn : ∀ (n d m pc : Nat) (ls : Lc) (st : List AV) (h : Hp) (v : Option AV) (h2 : Hp), ev n d m pc ls st h = some (v, h2) → VV h → fr_ls (bel h) ls → fr_st (bel h) st → VV h2 ∧ ∀ x, v = some x → fr_v (bel h2) x := by
  intro n
  induction n with
  | zero => intro d m pc ls st h v h2 hr; simp [ev] at hr
  | succ n ih =>
    intro d m pc ls st h v h2 hr hv hl ht
    cases hcd : am_cd m pc with
    | none => rw [ev, hcd] at hr; simp at hr
    | some x =>
      obtain ⟨i, len, a, b, c, q⟩ := x
      rw [ev_succ hcd] at hr
      cases hs : am_stp pc i len a b c ls st h with
      | none => rw [hs] at hr; simp at hr
      | some o =>
        rw [hs] at hr
        rcases o with ⟨pc2, ls2, st2, h3⟩ | w | ⟨m2, as, rs⟩
        · obtain ⟨g2, g3, g4⟩ := nn_stp hs hv hl ht
          exact ih _ _ _ _ _ _ _ _ hr g2 g3 g4
        · simp only [Option.some.injEq, Prod.mk.injEq] at hr
          obtain ⟨rfl, rfl⟩ := hr
          exact ⟨hv, fr_ret hs ht⟩
        · dsimp only at hr
          by_cases hd : am_rk m2 as < d ∧ (am_al as).length ≤ am_mx m2
          · rw [if_pos hd] at hr
            cases h1 : ev n (am_rk m2 as) m2 0 (am_en m2 as) [] h with
            | none => rw [h1] at hr; simp at hr
            | some w =>
              obtain ⟨w, h3⟩ := w
              rw [h1] at hr
              obtain ⟨f1, f2⟩ := fr_call hs ht
              have g5 := ev_cnt _ _ _ _ _ _ _ _ _ h1
              obtain ⟨g2, g3⟩ := ih _ _ _ _ _ _ _ _ h1 hv (fun i v hv => f1 v (sd_enA (γ := fun _ => 0) hv).2) (fun v hv => absurd hv List.not_mem_nil)
              have mo : ∀ i, bel h i → bel h3 i := fun i z => by have z : i < h.1.1 := z; show i < h3.1.1; omega
              exact ih _ _ _ _ _ _ _ _ hr g2 (fr_lm mo hl) (fun v hv => by
                rcases List.mem_append.mp hv with hv | hv
                · exact g3 v (Option.mem_toList.mp hv)
                · exact fr_sm mo f2 v hv)
          · rw [if_neg hd] at hr; cases hr
theorem call_nn {m : Nat} {as : List AV} {h : Hp} {v : Option AV} {h2 : Hp} (hc : call m as h = some (v, h2)) (hv : VV h) (has : fr_st (bel h) as) : VV h2 := by
  obtain ⟨n, e⟩ := run_iff.mp hc
  exact (ev_nn n _ _ _ _ _ _ _ _ e hv (fun i v hv => has v (sd_enA (γ := fun _ => 0) hv).2) (fun v hv => absurd hv List.not_mem_nil)).1
/-- the reference makes nothing -/
def inM (a : Nat) : Bool := decide (1201 ≤ a ∧ a ≤ 1267)
def naB (e : Option am_En) : Bool := match e with
  | none => true
  | some (i, _, a, _, c, _) => match i with
    | .new _ => false
    | .newarray _ => false
    | .anewarray _ => false
    | .multianewarray _ _ => false
    | .invokestatic _ => !decide (c = 0) || inM a
    | .invokespecial _ => !decide (c = 0) || inM a
    | .invokevirtual _ => decide (c = 0) && inM a
    | _ => true
theorem na_code {m : Nat} (h : inM m = true) : (am_code m).all naB = true := by
  have h := of_decide_eq_true h
  have : ∀ k ∈ List.range 67, (am_code (1201 + k)).all naB = true := by decide +kernel
  have := this (m - 1201) (List.mem_range.mpr (by omega))
  rw [show 1201 + (m - 1201) = m by omega] at this
  exact this
theorem na_cd {m pc : Nat} {e : am_En} (h : inM m = true) (hc : am_cd m pc = some e) : naB (some e) = true := by
  unfold am_cd at hc
  split at hc
  · rename_i e2 he
    cases hc
    have := na_code h
    rw [List.all_eq_true] at this
    exact this _ (List.mem_of_getElem? he)
  · cases hc
theorem na_stp {pc : Nat} {i : Instr} {len a b c q : Nat} {ls : Lc} {st : List AV} {h : Hp} {pc2 : Nat} {ls2 : Lc} {st2 : List AV} {h2 : Hp} (hn : naB (some (i, len, a, b, c, q)) = true) (hs : am_stp pc i len a b c ls st h = some (.inl (pc2, ls2, st2, h2))) : h2.1 = h.1 := by
  cases i <;> simp only [am_stp] at hs <;> (first | (cases hs; done) | (cases hn; done) | (repeat' split at hs) <;> (first | (cases hs; done) | (simp only [am_nx, Option.some.injEq, Sum.inl.injEq, Prod.mk.injEq] at hs; obtain ⟨-, rfl, rfl, rfl⟩ := hs; first | rfl | cases hn)))
theorem na_call {pc : Nat} {i : Instr} {len a b c q : Nat} {ls : Lc} {st : List AV} {h : Hp} {m2 : Nat} {as rs : List AV} (hn : naB (some (i, len, a, b, c, q)) = true) (hs : am_stp pc i len a b c ls st h = some (.inr (.inr (m2, as, rs)))) : inM m2 = true := by
  cases i <;> simp only [am_stp] at hs <;> (first | (cases hs; done) | (repeat' split at hs) <;> (first | (cases hs; done) | (simp only [am_nx] at hs; cases hs; done) | (simp only [Option.some.injEq, Sum.inr.injEq, Prod.mk.injEq] at hs; obtain ⟨rfl, rfl, rfl⟩ := hs; first | (simpa [naB] using hn) | (simp only [naB, Bool.and_eq_true, decide_eq_true_eq] at hn; exact absurd hn.1 (by assumption)))))
theorem ev_na : ∀ (n d m pc : Nat) (ls : Lc) (st : List AV) (h : Hp) (v : Option AV) (h2 : Hp), inM m = true → ev n d m pc ls st h = some (v, h2) → h2.1 = h.1 := by
  intro n
  induction n with
  | zero => intro d m pc ls st h v h2 _ hr; simp [ev] at hr
  | succ n ih =>
    intro d m pc ls st h v h2 hm hr
    cases hcd : am_cd m pc with
    | none => rw [ev, hcd] at hr; simp at hr
    | some x =>
      have hn := na_cd hm hcd
      obtain ⟨i, len, a, b, c, q⟩ := x
      rw [ev_succ hcd] at hr
      cases hs : am_stp pc i len a b c ls st h with
      | none => rw [hs] at hr; simp at hr
      | some o =>
        rw [hs] at hr
        rcases o with ⟨pc2, ls2, st2, h3⟩ | w | ⟨m2, as, rs⟩
        · exact (ih _ _ _ _ _ _ _ _ hm hr).trans (na_stp hn hs)
        · simp only [Option.some.injEq, Prod.mk.injEq] at hr
          obtain ⟨rfl, rfl⟩ := hr
          rfl
        · dsimp only at hr
          by_cases hd : am_rk m2 as < d ∧ (am_al as).length ≤ am_mx m2
          · rw [if_pos hd] at hr
            cases h1 : ev n (am_rk m2 as) m2 0 (am_en m2 as) [] h with
            | none => rw [h1] at hr; simp at hr
            | some w =>
              obtain ⟨w, h3⟩ := w
              rw [h1] at hr
              exact (ih _ _ _ _ _ _ _ _ hm hr).trans (ih _ _ _ _ _ _ _ _ (na_call hn hs) h1)
          · rw [if_neg hd] at hr; cases hr
theorem call_na {m : Nat} {as : List AV} {h : Hp} {v : Option AV} {h2 : Hp} (hm : inM m = true) (hc : call m as h = some (v, h2)) : h2.1 = h.1 := by
  obtain ⟨n, e⟩ := run_iff.mp hc
  exact ev_na n _ _ _ _ _ _ _ _ hm e
