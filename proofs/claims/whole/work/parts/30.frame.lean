/-! LOCALITY: a run touches only what its arguments lead to, and what it makes -/
def fr_cl (S : Nat → Prop) (h : Hp) : Prop := ∀ i, S i → ∀ (j : Nat) (r : Rf), hR h i j = some r → S r.1
def fr_v (S : Nat → Prop) (v : AV) : Prop := ∀ r : Rf, v = vr r → S r.1
def fr_ls (S : Nat → Prop) (ls : Lc) : Prop := ∀ (i : Nat) (v : AV), am_ld ls i = some v → fr_v S v
def fr_st (S : Nat → Prop) (st : List AV) : Prop := ∀ v ∈ st, fr_v S v
def fr_same (S : Nat → Prop) (h h2 : Hp) : Prop := ∀ i, ¬ S i → ∀ j, hI h2 i j = hI h i j ∧ hR h2 i j = hR h i j
theorem fr_vi {S : Nat → Prop} {x : Int32} : fr_v S (vi x) := fun r h => by cases h
theorem fr_vl {S : Nat → Prop} {x : Int64} : fr_v S (vl x) := fun r h => by cases h
theorem fr_vn {S : Nat → Prop} : fr_v S (vo none) := fun r h => by cases h
theorem fr_vr {S : Nat → Prop} {r : Rf} (h : S r.1) : fr_v S (vr r) := fun r2 e => by cases e; exact h
theorem fr_c {S : Nat → Prop} {v : AV} {r : List AV} (h1 : fr_v S v) (h2 : fr_st S r) : fr_st S (v :: r) := fun w hw => (List.mem_cons.mp hw).elim (fun q => q ▸ h1) (h2 w)
theorem fr_t {S : Nat → Prop} {v : AV} {r : List AV} (h : fr_st S (v :: r)) : fr_st S r := fun w hw => h w (List.mem_cons_of_mem _ hw)
theorem fr_h {S : Nat → Prop} {v : AV} {r : List AV} (h : fr_st S (v :: r)) : fr_v S v := h v List.mem_cons_self
theorem fr_s1 {S : Nat → Prop} {ls l2 : Lc} {i : Nat} {v : AV} (h : fr_ls S ls) (hs : am_s1 ls i v = some l2) (hv : fr_v S v) : fr_ls S l2 := by
  unfold am_s1 at hs
  split at hs
  · cases hs
    intro j w hw
    rw [sd_ldset] at hw
    split at hw
    · cases hw; exact hv
    · exact h j w hw
  · cases hs
theorem fr_s2 {S : Nat → Prop} {ls l2 : Lc} {i : Nat} {v : AV} (h : fr_ls S ls) (hs : am_s2 ls i v = some l2) (hv : fr_v S v) : fr_ls S l2 := by
  unfold am_s2 at hs
  split at hs
  · cases hs
    intro j w hw
    rw [sd_ldset] at hw
    split at hw
    · cases hw
    · rw [sd_ldset] at hw
      split at hw
      · cases hw; exact hv
      · exact h j w hw
  · cases hs
theorem fr_I {S : Nat → Prop} {h : Hp} {o b : Nat} {x : Int32} (ho : S o) : fr_same S h (hsI h o b x) := fun i hi j => by
  have hne : i ≠ o := fun q => hi (q ▸ ho)
  exact ⟨by simp [hI_hsI, hne], rfl⟩
theorem fr_R {S : Nat → Prop} {h : Hp} {o b : Nat} {x : Option Rf} (ho : S o) : fr_same S h (hsR h o b x) := fun i hi j => by
  have hne : i ≠ o := fun q => hi (q ▸ ho)
  exact ⟨rfl, by simp [hR_hsR, hne]⟩
theorem fr_Rc {S : Nat → Prop} {h : Hp} {o b : Nat} {x : Option Rf} (hc : fr_cl S h) (hx : fr_v S (vo x)) : fr_cl S (hsR h o b x) := by
  intro i hi j r hr
  rw [hR_hsR] at hr
  split at hr
  · exact hx r (by rw [hr])
  · exact hc i hi j r hr
theorem fr_mk {S : Nat → Prop} {h : Hp} {w : Nat} (hS : ∀ i, h.1.1 ≤ i → S i) : fr_same S h (hmk h w) := fun i hi j => by
  have : i ≠ h.1.1 := fun q => hi (hS i (by omega))
  exact ⟨by rw [hI_hmk, if_neg this], by rw [hR_hmk, if_neg this]⟩
theorem fr_mkc {S : Nat → Prop} {h : Hp} {w : Nat} (hc : fr_cl S h) : fr_cl S (hmk h w) := by
  intro i hi j r hr
  rw [hR_hmk] at hr
  split at hr
  · cases hr
  · exact hc i hi j r hr
theorem fr_mm {S : Nat → Prop} {h : Hp} {n k : Nat} (hS : ∀ i, h.1.1 ≤ i → S i) : fr_same S h (hmm h n k) := fun i hi j => by
  have : ¬ h.1.1 ≤ i := fun q => hi (hS i q)
  exact ⟨by rw [hI_hmm, if_neg this], by rw [hR_hmm, if_neg this]⟩
theorem fr_mmc {S : Nat → Prop} {h : Hp} {n k : Nat} (hS : ∀ i, h.1.1 ≤ i → S i) (hc : fr_cl S h) : fr_cl S (hmm h n k) := by
  intro i hi j r hr
  rw [hR_hmm] at hr
  split at hr
  · split at hr
    · cases hr; exact hS _ (by show h.1.1 ≤ h.1.1 + 1 + j; omega)
    · cases hr
  · exact hc i hi j r hr
theorem fr_cp {S : Nat → Prop} {h : Hp} {o0 sp o1 dp n : Nat} (ho : S o1) : fr_same S h (hcp h o0 sp o1 dp n) := fun i hi j => by
  have hne : i ≠ o1 := fun q => hi (q ▸ ho)
  exact ⟨by simp [hI_hcp, hne], rfl⟩
/-- one step within a method -/
theorem fr_stp {S : Nat → Prop} {pc : Nat} {i : Instr} {len a b c : Nat} {ls : Lc} {st : List AV} {h : Hp} {pc2 : Nat} {ls2 : Lc} {st2 : List AV} {h2 : Hp} (hs : am_stp pc i len a b c ls st h = some (.inl (pc2, ls2, st2, h2))) (hS : ∀ i, h.1.1 ≤ i → S i) (hc : fr_cl S h) (hl : fr_ls S ls) (ht : fr_st S st) :
    fr_same S h h2 ∧ fr_cl S h2 ∧ fr_ls S ls2 ∧ fr_st S st2 := by
  have rf : fr_same S h h := fun _ _ _ => ⟨rfl, rfl⟩
  cases i <;> simp only [am_stp] at hs <;> (first | (cases hs; done) | (repeat' split at hs) <;> (first | (cases hs; done) | (simp only [am_nx, Option.some.injEq, Sum.inl.injEq, Prod.mk.injEq] at hs; obtain ⟨-, rfl, rfl, rfl⟩ := hs; first
    | exact ⟨rf, hc, hl, ht⟩
    | exact ⟨rf, hc, hl, fr_c fr_vi ht⟩
    | exact ⟨rf, hc, hl, fr_c fr_vl ht⟩
    | exact ⟨rf, hc, hl, fr_c fr_vn ht⟩
    | exact ⟨rf, hc, hl, fr_t ht⟩
    | exact ⟨rf, hc, hl, fr_t (fr_t ht)⟩
    | exact ⟨rf, hc, hl, fr_c fr_vi (fr_t ht)⟩
    | exact ⟨rf, hc, hl, fr_c fr_vi (fr_t (fr_t ht))⟩
    | exact ⟨rf, hc, hl, fr_c fr_vl (fr_t ht)⟩
    | exact ⟨rf, hc, hl, fr_c fr_vl (fr_t (fr_t ht))⟩
    | exact ⟨rf, hc, hl, fr_c (fr_h ht) ht⟩
    | exact ⟨rf, hc, hl, fr_c (fr_h ht) (fr_c (fr_h (fr_t ht)) ht)⟩
    | exact ⟨rf, hc, hl, fr_c (hl _ _ (by assumption)) ht⟩
    | exact ⟨rf, hc, fr_s1 hl (by assumption) (fr_h ht), fr_t ht⟩
    | exact ⟨rf, hc, fr_s2 hl (by assumption) (fr_h ht), fr_t ht⟩
    | exact ⟨rf, hc, fr_s1 hl (by assumption) fr_vi, ht⟩
    | exact ⟨rf, hc, hl, fr_c (fun r hr => hc _ (fr_h ht _ rfl) _ r (by simpa using hr)) (fr_t ht)⟩
    | exact ⟨rf, hc, hl, fr_c (fun r hr => hc _ (fr_h (fr_t ht) _ rfl) _ r (by simpa using hr)) (fr_t (fr_t ht))⟩
    | exact ⟨fr_I (fr_h (fr_t ht) _ rfl), hc, hl, fr_t (fr_t ht)⟩
    | exact ⟨fr_R (fr_h (fr_t ht) _ rfl), fr_Rc hc (fr_h ht), hl, fr_t (fr_t ht)⟩
    | exact ⟨fr_I (fr_h (fr_t (fr_t ht)) _ rfl), hc, hl, fr_t (fr_t (fr_t ht))⟩
    | exact ⟨fr_R (fr_h (fr_t (fr_t ht)) _ rfl), fr_Rc hc (fr_h ht), hl, fr_t (fr_t (fr_t ht))⟩
    | exact ⟨fr_mk hS, fr_mkc hc, hl, fr_c (fr_vr (hS _ (Nat.le_refl _))) ht⟩
    | exact ⟨fr_mk hS, fr_mkc hc, hl, fr_c (fr_vr (hS _ (Nat.le_refl _))) (fr_t ht)⟩
    | exact ⟨fr_mm hS, fr_mmc hS hc, hl, fr_c (fr_vr (hS _ (Nat.le_refl _))) (fr_t (fr_t ht))⟩
    | exact ⟨fr_cp (fr_h (fr_t (fr_t ht)) _ rfl), hc, hl, fr_t (fr_t (fr_t (fr_t (fr_t ht))))⟩)))
theorem fr_call {S : Nat → Prop} {pc : Nat} {i : Instr} {len a b c : Nat} {ls : Lc} {st : List AV} {h : Hp} {m2 : Nat} {as rs : List AV} (hs : am_stp pc i len a b c ls st h = some (.inr (.inr (m2, as, rs)))) (ht : fr_st S st) : fr_st S as ∧ fr_st S rs := by
  have h1 : ∀ k, fr_st S (st.take k).reverse := fun k v hv => ht v (List.mem_of_mem_take (List.mem_reverse.mp hv))
  have h2 : ∀ k, fr_st S (st.drop k) := fun k v hv => ht v (List.mem_of_mem_drop hv)
  cases i <;> simp only [am_stp] at hs <;> (first | (cases hs; done) | (repeat' split at hs) <;> (first | (cases hs; done) | (simp only [am_nx] at hs; cases hs; done) | (simp only [Option.some.injEq, Sum.inr.injEq, Prod.mk.injEq] at hs; obtain ⟨-, rfl, rfl⟩ := hs; first
    | exact ⟨h1 _, h2 _⟩
    | (have hx := h2 b; rw [(by assumption : List.drop b st = _)] at hx; exact ⟨fr_c (fr_h hx) (h1 _), fr_t hx⟩))))
theorem fr_ret {S : Nat → Prop} {pc : Nat} {i : Instr} {len a b c : Nat} {ls : Lc} {st : List AV} {h : Hp} {v : Option AV} (hs : am_stp pc i len a b c ls st h = some (.inr (.inl v))) (ht : fr_st S st) : ∀ x, v = some x → fr_v S x := by
  cases i <;> simp only [am_stp] at hs <;> (first | (cases hs; done) | (repeat' split at hs) <;> (first | (cases hs; done) | (simp only [am_nx] at hs; cases hs; done) | (simp only [Option.some.injEq, Sum.inr.injEq, Sum.inl.injEq] at hs; subst hs; intro x hx; cases hx <;> first | exact fr_vi | exact fr_h ht)))
theorem ev_fr {S : Nat → Prop} : ∀ (n d m pc : Nat) (ls : Lc) (st : List AV) (h : Hp) (v : Option AV) (h2 : Hp), ev n d m pc ls st h = some (v, h2) → (∀ i, h.1.1 ≤ i → S i) → fr_cl S h → fr_ls S ls → fr_st S st → fr_same S h h2 ∧ fr_cl S h2 ∧ ∀ x, v = some x → fr_v S x := by
  intro n
  induction n with
  | zero => intro d m pc ls st h v h2 hr; simp [ev] at hr
  | succ n ih =>
    intro d m pc ls st h v h2 hr hS hc hl ht
    cases hcd : am_cd m pc with
    | none => rw [ev, hcd] at hr; simp at hr
    | some x =>
      obtain ⟨i, len, a, b, c, q⟩ := x
      rw [ev_succ hcd] at hr
      cases hs : am_stp pc i len a b c ls st h with
      | none => rw [hs] at hr; simp at hr
      | some o =>
        rw [hs] at hr
        rcases o with ⟨pc2, ls2, st2, h3⟩ | w | ⟨m2, as, rs⟩
        · obtain ⟨g1, g2, g3, g4⟩ := fr_stp hs hS hc hl ht
          have g5 := sd_cnt hs
          obtain ⟨k1, k2, k3⟩ := ih _ _ _ _ _ _ _ _ hr (fun i hi => hS i (by omega)) g2 g3 g4
          exact ⟨fun i hi j => ⟨((k1 i hi j).1).trans (g1 i hi j).1, ((k1 i hi j).2).trans (g1 i hi j).2⟩, k2, k3⟩
        · simp only [Option.some.injEq, Prod.mk.injEq] at hr
          obtain ⟨rfl, rfl⟩ := hr
          exact ⟨fun _ _ _ => ⟨rfl, rfl⟩, hc, fr_ret hs ht⟩
        · dsimp only at hr
          by_cases hd : am_rk m2 as < d ∧ (am_al as).length ≤ am_mx m2
          · rw [if_pos hd] at hr
            cases h1 : ev n (am_rk m2 as) m2 0 (am_en m2 as) [] h with
            | none => rw [h1] at hr; simp at hr
            | some w =>
              obtain ⟨w, h3⟩ := w
              rw [h1] at hr
              obtain ⟨f1, f2⟩ := fr_call hs ht
              have g5 := ev_cnt _ _ _ _ _ _ _ _ _ h1
              obtain ⟨g1, g2, g3⟩ := ih _ _ _ _ _ _ _ _ h1 hS hc (fun i v hv => f1 v (sd_enA (γ := fun _ => 0) hv).2) (fun v hv => absurd hv List.not_mem_nil)
              obtain ⟨k1, k2, k3⟩ := ih _ _ _ _ _ _ _ _ hr (fun i hi => hS i (by omega)) g2 hl (fun v hv => by
                rcases List.mem_append.mp hv with hv | hv
                · exact g3 v (Option.mem_toList.mp hv)
                · exact f2 v hv)
              exact ⟨fun i hi j => ⟨((k1 i hi j).1).trans (g1 i hi j).1, ((k1 i hi j).2).trans (g1 i hi j).2⟩, k2, k3⟩
          · rw [if_neg hd] at hr; cases hr
theorem call_fr {S : Nat → Prop} {m : Nat} {as : List AV} {h : Hp} {v : Option AV} {h2 : Hp} (hc : call m as h = some (v, h2)) (hS : ∀ i, h.1.1 ≤ i → S i) (hcl : fr_cl S h) (has : fr_st S as) : fr_same S h h2 ∧ fr_cl S h2 := by
  obtain ⟨n, e⟩ := run_iff.mp hc
  obtain ⟨h1, h2, -⟩ := ev_fr n _ _ _ _ _ _ _ _ e hS hcl (fun i v hv => has v (sd_enA (γ := fun _ => 0) hv).2) (fun v hv => absurd hv List.not_mem_nil)
  exact ⟨h1, h2⟩
theorem call_cnt {m : Nat} {as : List AV} {h : Hp} {v : Option AV} {h2 : Hp} (hc : call m as h = some (v, h2)) : h.1.1 ≤ h2.1.1 ∧ h.1.2 ≤ h2.1.2 := by
  obtain ⟨n, e⟩ := run_iff.mp hc
  exact ev_cnt _ _ _ _ _ _ _ _ _ e
